/-! HOW DEEP A TYPE IS, both sides -/
def dT (D : Nat → Nat) (t : Ty) : Nat := match endS t with
  | some s => D s + (t.length - 2)
  | none => t.length
def PlF (t : Ty) : Prop := ∃ (k : Nat) (s : Ty), t = List.replicate k 7 ++ s ∧ ((∃ c, s = [c] ∧ 1 ≤ c ∧ c ≤ 5) ∨ ∃ y, s = [6, y])
theorem tV_dig : ∀ (t : Ty) (j : Nat), (∀ b, b ∈ t → b < 256) → j < t.length → tV t / 256 ^ (t.length - 1 - j) % 256 = t.getD j 0
  | [], j, _, h => absurd h (by simp)
  | c :: t, 0, hb, _ => by
    have hv := tV_lt t (fun x hx => hb x (by simp [hx]))
    have hc := hb c (by simp)
    show (c * 256 ^ t.length + tV t) / 256 ^ ((c :: t).length - 1 - 0) % 256 = c
    rw [show (c :: t).length - 1 - 0 = t.length by simp, Nat.mul_comm, Nat.mul_add_div (Nat.pow_pos (by omega)), Nat.div_eq_of_lt hv, Nat.add_zero]
    omega
  | c :: t, j + 1, hb, h => by
    have hj : j < t.length := by simpa using h
    have ih := tV_dig t j (fun x hx => hb x (by simp [hx])) hj
    show (c * 256 ^ t.length + tV t) / 256 ^ ((c :: t).length - 1 - (j + 1)) % 256 = t.getD j 0
    rw [show (c :: t).length - 1 - (j + 1) = t.length - 1 - j by simp; omega]
    have ep : 256 ^ t.length = 256 ^ (t.length - 1 - j) * 256 ^ (j + 1) := by rw [← Nat.pow_add]; congr 1; omega
    rw [ep, ← ih]
    have ep2 : 256 ^ (j + 1) = 256 * 256 ^ j := by rw [Nat.pow_succ, Nat.mul_comm]
    rw [ep2, show c * (256 ^ (t.length - 1 - j) * (256 * 256 ^ j)) = 256 ^ (t.length - 1 - j) * (256 * (c * 256 ^ j)) by
      rw [← Nat.mul_assoc, ← Nat.mul_assoc, Nat.mul_comm c, Nat.mul_assoc, Nat.mul_assoc, Nat.mul_left_comm c]]
    rw [Nat.mul_add_div (Nat.pow_pos (by omega))]
    omega
theorem lN_shrK {v k : Nat} (h : v < 2 ^ 63) (hk : k < 8) : lN v >>> ((nI (8 * k)).toInt64 &&& 63) = lN (v / 256 ^ k) := by
  apply Int64.toBitVec_inj.mp
  have e : (lN v >>> ((nI (8 * k)).toInt64 &&& 63)).toBitVec = (lN v).toBitVec.sshiftRight (8 * k) := by
    match k, hk with
    | 0, _ => rfl
    | 1, _ => rfl
    | 2, _ => rfl
    | 3, _ => rfl
    | 4, _ => rfl
    | 5, _ => rfl
    | 6, _ => rfl
    | 7, _ => rfl
  have m : (lN v).toBitVec.msb = false := by
    rw [BitVec.msb_eq_decide]
    apply decide_eq_false
    show ¬ 2 ^ (64 - 1) ≤ v % 2 ^ 64
    rw [Nat.mod_eq_of_lt (by omega)]
    omega
  have dl : v / 256 ^ k ≤ v := Nat.div_le_self _ _
  rw [e, BitVec.sshiftRight_eq_of_msb_false m]
  apply BitVec.eq_of_toNat_eq
  rw [BitVec.toNat_ushiftRight]
  show (v % 2 ^ 64) >>> (8 * k) = (v / 256 ^ k) % 2 ^ 64
  rw [Nat.mod_eq_of_lt (by omega), Nat.shiftRight_eq_div_pow, p8, Nat.mod_eq_of_lt (by omega)]
theorem lN_le0 {v : Nat} (h : v < 2 ^ 63) : (lN v ≤ 0) ↔ v = 0 := by
  rw [Int64.le_iff_toInt_le]
  have e1 : (lN v).toInt = (v : Int) := by
    show (Int64.ofNat v).toInt = _
    rw [Int64.toInt_ofNat_of_lt (by omega)]
  rw [e1, show (0 : Int64).toInt = 0 from rfl]
  omega
section
variable {F n : Nat} {sh : Nat → Nat × Nat} {z z' : St} {kp kb len : Nat} {b : Nat → Nat} {M : MP} {D : Nat → Nat}
theorem RdT.pl {p : Nat} {t : Ty} {e : Nat} (h : RdT b len p false (t, e)) : PlF t := by
  obtain ⟨_, _, _, _, r, k, s, e1, hr, hk, hs⟩ := h
  have er : r = [] := by
    rcases hr with q | ⟨q, _⟩
    · exact q
    · cases q
  subst er
  have e1' : t = [] ++ List.replicate k 7 ++ s := e1
  rw [List.nil_append] at e1'
  refine ⟨k, s, e1', ?_⟩
  rcases hs with ⟨c, q1, q2, q3⟩ | ⟨y, q1, _⟩
  · exact .inl ⟨c, q1, q2, q3⟩
  · exact .inr ⟨y, q1⟩
theorem dT_le {t : Ty} {m : Nat} (h : TB t) (hD : ∀ s, endS t = some s → D s ≤ m) : dT D t ≤ m + 7 := by
  have l := h.len
  unfold dT
  cases e : endS t with
  | none => show t.length ≤ _; omega
  | some s =>
    have := hD s e
    show D s + (t.length - 2) ≤ _
    omega
/-- the class counts the vectors from the front -/
theorem dep30 {t : Ty} (h : TB t) {k : Nat} (hk : ∀ i, i < k → t.getD i 0 = 7) (hs : k = t.length - 1 ∨ (k + 1 < t.length ∧ t.getD k 0 ≠ 7)) (hk2 : k < t.length) {m : Nat} (hm : m < 2 ^ 20) : ∀ r i g, i + r = k → r < g → fn_X5_depthOf_L30 F sh n (tL t) g z (nI (m + i)) (nI (8 * (t.length - 1 - i))) = some (z, nI (m + k)) := by
  have l := h.len
  have bt : ∀ i, i < t.length → (((((tL t).toUInt64 >>> ((nI (8 * (t.length - 1 - i))).toInt64.toUInt64 &&& Int64.toUInt64 63)).toInt64) &&& 255 : Int64) = 7 ↔ t.getD i 0 = 7) := fun i hi => by
    have en : N ((((tL t).toUInt64 >>> ((nI (8 * (t.length - 1 - i))).toInt64.toUInt64 &&& Int64.toUInt64 63)).toInt64) &&& 255) = t.getD i 0 := by
      rw [N_255, ush8 (by omega), h.lt.2]
      exact tV_dig t i h.2.2 hi
    constructor
    · intro y; rw [← en, y]; rfl
    · intro y; exact N_inj (by rw [en, y]; rfl)
  intro r
  induction r with
  | zero =>
    intro i g ei hg
    obtain ⟨g, rfl⟩ : ∃ q, g = q + 1 := ⟨g - 1, by omega⟩
    have : i = k := by omega
    subst this
    unfold fn_X5_depthOf_L30
    rcases hs with q | ⟨q1, q2⟩
    · rw [if_pos ((nIle (x := 0) 0 rfl (by omega) (by omega)).mpr (by omega))]
    · rw [if_neg (fun y => by have := (nIle (x := 0) 0 rfl (by omega) (by omega)).mp y; omega), if_neg (fun y => q2 ((bt i hk2).mp y))]
  | succ r ih =>
    intro i g ei hg
    obtain ⟨g, rfl⟩ : ∃ q, g = q + 1 := ⟨g - 1, by omega⟩
    unfold fn_X5_depthOf_L30
    have e8 : nI (8 * (t.length - 1 - i)) + (-8) = nI (8 * (t.length - 1 - (i + 1))) := by
      have : 8 * (t.length - 1 - i) = 8 * (t.length - 1 - (i + 1)) + 8 := by omega
      rw [this, ← nI_add]
      show nI _ + (8 : Int32) + (-8) = _
      rw [Int32.add_assoc, show (8 : Int32) + (-8) = 0 from rfl, Int32.add_zero]
    rw [if_neg (fun y => by have := (nIle (x := 0) 0 rfl (by omega) (by omega)).mp y; omega), if_pos ((bt i (by omega)).mpr (hk i (by omega))), nI_1, e8]
    exact ih (i + 1) g (by omega) (by omega)
theorem PlF.dep {t : Ty} (h : TB t) (hp : PlF t) : ∃ k, (∀ i, i < k → t.getD i 0 = 7) ∧ (k = t.length - 1 ∨ (k + 1 < t.length ∧ t.getD k 0 ≠ 7)) ∧ k < t.length ∧ (∀ s, endS t = some s → k = t.length - 2 ∧ 2 ≤ t.length) ∧ (endS t = none → k = t.length - 1) := by
  obtain ⟨k, s, e, hs⟩ := hp
  have seven : ∀ i, i < k → t.getD i 0 = 7 := fun i hi => by
    rw [e, ap_l (by rw [List.length_replicate]; exact hi), List.getD_eq_getElem?_getD, List.getElem?_replicate, if_pos hi]; rfl
  have all6 : ∀ x, x ∈ List.replicate k 7 → 6 < x := fun x hx => by rw [(List.mem_replicate.mp hx).2]; omega
  rcases hs with ⟨c, q, _, _⟩ | ⟨y, q⟩
  · subst q
    have l : t.length = k + 1 := by rw [e, List.length_append, List.length_replicate]; rfl
    refine ⟨k, seven, .inl (by omega), by omega, fun s es => ?_, fun _ => by omega⟩
    rw [e, endS_n c _ all6] at es; cases es
  · subst q
    have l : t.length = k + 2 := by rw [e, List.length_append, List.length_replicate]; rfl
    refine ⟨k, seven, .inr ⟨by omega, ?_⟩, by omega, fun s _ => ⟨by omega, by omega⟩, fun es => ?_⟩
    · have := ap_r (l := List.replicate k 7) (m := [6, y]) (d := 0) 0
      rw [List.length_replicate, Nat.add_zero] at this
      rw [e, this]; show ¬ (6 = 7); omega
    · rw [e, endS_6] at es; cases es
theorem CPo.depthOf (hF : 300 ≤ F) (h : CPo sh n z kp b len M) {t : Ty} (ht : TBr (M.1.length + M.2.1.length) t) (hp : PlF t) (hD : ∀ s, s < M.1.length + M.2.1.length → z.1 (kp + 3) (7 * s + 6) = nI (D s) ∧ D s < 2 ^ 20) : fn_X5_depthOf F sh n z kp (tL t) = some (z, nI (dT D t)) := by
  have p5 := (b_prog h.1 h.2.1).1
  obtain ⟨en1, en2⟩ := endsC_t (F := F) (sh := sh) (n := n) (z := z) ht.1
  obtain ⟨sc, _⟩ := shiftC_t (F := F) (sh := sh) (n := n) (z := z) hF ht.1
  obtain ⟨k, k1, k2, k3, k4, k5⟩ := hp.dep ht.1
  have l := ht.1.len
  have base : ∀ m, m < 2 ^ 20 → fn_X5_depthOf_B23 F sh n (tL t) z (nI m) = some (z, nI (m + k)) := fun m hm => by
    unfold fn_X5_depthOf_B23
    rw [sc, cal_s]
    exact dep30 ht.1 k1 k2 k3 hm k 0 F (by omega) (by omega)
  unfold fn_X5_depthOf dT
  rw [en1, cal_s]
  cases e : endS t with
  | none =>
    rw [show bI (none : Option Nat).isSome = 0 from rfl, if_pos rfl, show (1 : Int32) = nI 1 from rfl, base 1 (by omega)]
    have := k5 e
    show some (z, nI (1 + k)) = some (z, nI t.length)
    rw [this, show 1 + (t.length - 1) = t.length by omega]
  | some s =>
    have hs := ht.2.2 s e
    obtain ⟨d1, d2⟩ := hD s hs
    have := (k4 s e).1
    rw [show bI (some s).isSome = 1 from rfl, if_neg (by decide), p5, grd_true, en2 s e, h.sCol (c := 6) (ic := 6) rfl hs (by omega), cal_s, d1, base (D s) d2, this]
theorem depR32 {t : Ty} (h : TB t) (p4 : Int32) : ∀ r p g, p + r = t.length → r < g → fn_X18_depthOf_L32 F sh n (tL t) p4 g z (nI p) = fn_X18_depthOf_B57 F sh n (tL t) p4 z (nI t.length) := by
  have l := h.len
  have lt := h.lt.1
  have sh8 : ∀ p, p < 8 → (((tL t >>> (((8 * nI p) : Int32).toInt64 &&& 63)) : Int64) ≤ 0 ↔ t.length ≤ p) := fun p hp => by
    have e8 : (8 : Int32) * nI p = nI (8 * p) := pk_mul 8 p
    have dl : tV t / 256 ^ p ≤ tV t := Nat.div_le_self _ _
    rw [e8]
    unfold tL
    rw [lN_shrK (by omega) hp, lN_le0 (by omega)]
    exact h.zero p
  intro r
  induction r with
  | zero =>
    intro p g e hg
    obtain ⟨g, rfl⟩ : ∃ q, g = q + 1 := ⟨g - 1, by omega⟩
    have : p = t.length := by omega
    subst this
    unfold fn_X18_depthOf_L32
    rw [if_neg (fun q => by have := (nIge (x := 8) 8 rfl (by omega) (by omega)).mp q; omega), if_pos ((sh8 _ (by omega)).mpr (Nat.le_refl _))]
  | succ r ih =>
    intro p g e hg
    obtain ⟨g, rfl⟩ : ∃ q, g = q + 1 := ⟨g - 1, by omega⟩
    unfold fn_X18_depthOf_L32
    rw [if_neg (fun q => by have := (nIge (x := 8) 8 rfl (by omega) (by omega)).mp q; omega), if_neg (fun q => by have := (sh8 p (by omega)).mp q; omega), nI_1]
    exact ih (p + 1) g (by omega) (by omega)
theorem depR (hF : 300 ≤ F) (hL : Lay sh n z) {u : Nat} (hu : u < 10) {ns : Nat} (hn : ns ≤ 64) {t : Ty} (ht : TBr ns t) (hD : ∀ s, s < ns → z.1 342 (64 * u + s) = nI (D s) ∧ D s < 2 ^ 20) : fn_X18_depthOf F sh n z 337 (nI u) (tL t) = some (z, nI (dT D t)) := by
  have l := ht.1.len
  have lt := ht.1.lt.1
  have o18 := (b_model hL).1
  have m6 := hL.2.2 337 6 342 rfl
  have oa : ∀ i, okA sh n 342 101 i = okI i 640 := lay_a hL 342 101 640 (by decide) rfl
  have en := endsR_t (F := F) (sh := sh) (n := n) (z := z) ht.1
  have de := ht.1.ends
  have base : ∀ m : Nat, fn_X18_depthOf_B27 F sh n (tL t) z (nI m) = cal (fn_X18_endsInStructure F sh n z (tL t)) (fun z_11 r_12 => if (r_12 : Int32) = 0 then some (z_11, (nI m + (nI t.length - 1))) else some (z_11, (nI m + (nI t.length - 2)))) := fun m => by
    unfold fn_X18_depthOf_B27
    have := depR32 (F := F) (sh := sh) (n := n) (z := z) ht.1 (nI m) t.length 0 F (by omega) (by omega)
    have this' : fn_X18_depthOf_L32 F sh n (tL t) (nI m) F z 0 = fn_X18_depthOf_B57 F sh n (tL t) (nI m) z (nI t.length) := this
    rw [this']
    rfl
  unfold fn_X18_depthOf dT
  by_cases c : tV t / 256 % 256 = 6
  · rw [decide_eq_true c] at en
    rw [if_pos c] at de
    have hs := ht.2.2 _ de
    obtain ⟨d1, d2⟩ := hD _ hs
    have l2 : 2 ≤ t.length := by
      by_cases q : t.length < 2
      · have : t.length = 1 := by omega
        have z1 := (ht.1.zero 1).mpr (by omega)
        rw [Nat.pow_one] at z1
        rw [z1] at c; cases c
      · omega
    have g1 : ((tL t &&& 255) : Int64).toInt32 = nI (tV t % 256) := by unfold tL; rw [lN_a255 (by omega), lN_i32]
    have gi : (64 : Int32) * nI u + nI (tV t % 256) = nI (64 * u + tV t % 256) := by rw [show (64 : Int32) * nI u = nI (64 * u) from pk_mul 64 u, nI_add]
    rw [en, cal_s, show bI true = 1 from rfl, if_neg (by decide), o18, grd_true, m6, lnk_s, g1, gi, oa, okI_nI (by omega) (by omega), grd_true, nI_clamp (by omega), d1, base, en, cal_s, show bI true = 1 from rfl, if_neg (by decide), de, show (2 : Int32) = nI 2 from rfl, pk_sub l2, nI_add]
  · rw [decide_eq_false c] at en
    rw [if_neg c] at de
    rw [en, cal_s, show bI false = 0 from rfl, if_pos rfl, show (1 : Int32) = nI 1 from rfl, base 1, en, cal_s, show bI false = 0 from rfl, if_pos rfl, de, show (1 : Int32) = nI 1 from rfl, pk_sub (by omega), nI_add, show 1 + (t.length - 1) = t.length by omega]
end
