/-! TYPES AS NUMBERS: both sides -/
def tV : Ty → Nat
  | [] => 0
  | b :: t => b * 256 ^ t.length + tV t
def tL (t : Ty) : Int64 := lN (tV t)
/-- what a type may be as a number -/
def TB (t : Ty) : Prop := t.length ≤ 7 ∧ (1 ≤ hdT t ∧ hdT t ≤ 9) ∧ ∀ b, b ∈ t → b < 256
theorem tV_lt : ∀ t : Ty, (∀ b, b ∈ t → b < 256) → tV t < 256 ^ t.length
  | [], _ => by simp [tV]
  | b :: t, h => by
    have h1 := tV_lt t (fun x hx => h x (by simp [hx]))
    have h2 := h b (by simp)
    show b * 256 ^ t.length + tV t < 256 ^ (t.length + 1)
    rw [Nat.pow_succ]
    have : (b + 1) * 256 ^ t.length ≤ 256 * 256 ^ t.length := Nat.mul_le_mul_right _ (by omega)
    rw [Nat.add_mul, Nat.one_mul] at this
    rw [Nat.mul_comm (256 ^ t.length) 256]
    omega
theorem TB.ne {t : Ty} (h : TB t) : ∃ b p, t = b :: p ∧ 1 ≤ b ∧ b ≤ 9 := by
  cases t with
  | nil => have := h.2.1.1; simp [hdT] at this
  | cons b p => exact ⟨b, p, rfl, h.2.1.1, h.2.1.2⟩
theorem TB.len {t : Ty} (h : TB t) : 1 ≤ t.length ∧ t.length ≤ 7 := by
  obtain ⟨b, p, e, _⟩ := h.ne
  refine ⟨by rw [e]; simp, h.1⟩
theorem pow256 {k : Nat} (h : k ≤ 7) : 256 ^ k ≤ 256 ^ 7 := Nat.pow_le_pow_right (by omega) h
theorem TB.lt {t : Ty} (h : TB t) : tV t < 2 ^ 56 ∧ N (tL t) = tV t := by
  have h1 := tV_lt t h.2.2
  have h2 := pow256 h.1
  have h3 : tV t < 2 ^ 56 := by
    have : (256 : Nat) ^ 7 = 2 ^ 56 := by decide
    omega
  exact ⟨h3, N_lN (by omega)⟩
theorem p8 (k : Nat) : 2 ^ (8 * k) = 256 ^ k := by rw [Nat.pow_mul]
/-- how long: where the number ends -/
theorem TB.zero {t : Ty} (h : TB t) (p : Nat) : tV t / 256 ^ p = 0 ↔ t.length ≤ p := by
  obtain ⟨b, q, e, b1, b2⟩ := h.ne
  constructor
  · intro z
    by_cases c : t.length ≤ p
    · exact c
    · exfalso
      rw [Nat.div_eq_zero_iff] at z
      rcases z with z | z
      · exact absurd z (by simp)
      · have l : p ≤ q.length := by rw [e] at c; simp at c; omega
        have : 256 ^ p ≤ 256 ^ q.length := Nat.pow_le_pow_right (by omega) l
        have : 1 * 256 ^ q.length ≤ b * 256 ^ q.length := Nat.mul_le_mul_right _ b1
        have ev : tV t = b * 256 ^ q.length + tV q := by rw [e]; rfl
        omega
  · intro c
    have h1 := tV_lt t h.2.2
    have : 256 ^ t.length ≤ 256 ^ p := Nat.pow_le_pow_right (by omega) c
    exact Nat.div_eq_of_lt (by omega)
theorem TB.head {t : Ty} (h : TB t) : tV t / 256 ^ (t.length - 1) = hdT t := by
  obtain ⟨b, q, e, b1, b2⟩ := h.ne
  subst e
  have h1 := tV_lt q (fun x hx => h.2.2 x (by simp [hx]))
  show (b * 256 ^ q.length + tV q) / 256 ^ (q.length + 1 - 1) = b
  rw [Nat.add_sub_cancel, Nat.mul_comm, Nat.mul_add_div (Nat.pos_of_ne_zero (by intro z; rw [z] at h1; omega)), Nat.div_eq_of_lt h1]
  rfl
theorem TB.tail {b : Nat} {q : Ty} (h : TB (b :: q)) : tV (b :: q) % 256 ^ q.length = tV q := by
  have h1 := tV_lt q (fun x hx => h.2.2 x (by simp [hx]))
  show (b * 256 ^ q.length + tV q) % _ = _
  rw [Nat.mul_comm, Nat.mul_add_mod, Nat.mod_eq_of_lt h1]
theorem tV_inj : ∀ t u : Ty, t.length = u.length → (∀ b, b ∈ t → b < 256) → (∀ b, b ∈ u → b < 256) → tV t = tV u → t = u
  | [], [], _, _, _, _ => rfl
  | [], _ :: _, h, _, _, _ => absurd h (by simp)
  | _ :: _, [], h, _, _, _ => absurd h (by simp)
  | a :: t, b :: u, h, h1, h2, e => by
    have l : t.length = u.length := by simpa using h
    have t1 := tV_lt t (fun x hx => h1 x (by simp [hx]))
    have u1 := tV_lt u (fun x hx => h2 x (by simp [hx]))
    have e' : a * 256 ^ t.length + tV t = b * 256 ^ u.length + tV u := e
    rw [← l] at e' u1
    have p0 : 0 < 256 ^ t.length := Nat.pos_of_ne_zero (by intro z; rw [z] at t1; omega)
    have ab : a = b := by
      have x1 : (256 ^ t.length * a + tV t) / 256 ^ t.length = a := by rw [Nat.mul_add_div p0, Nat.div_eq_of_lt t1]; rfl
      have x2 : (256 ^ t.length * b + tV u) / 256 ^ t.length = b := by rw [Nat.mul_add_div p0, Nat.div_eq_of_lt u1]; rfl
      rw [← x1, ← x2, Nat.mul_comm _ a, Nat.mul_comm _ b, e']
    subst ab
    rw [tV_inj t u l (fun x hx => h1 x (by simp [hx])) (fun x hx => h2 x (by simp [hx])) (by omega)]
theorem TB.inj {t u : Ty} (h : TB t) (g : TB u) : tL t = tL u ↔ t = u := by
  refine ⟨fun e => ?_, fun e => by rw [e]⟩
  have ev : tV t = tV u := by rw [← h.lt.2, ← g.lt.2, e]
  refine tV_inj t u ?_ h.2.2 g.2.2 ev
  have a := h.zero u.length
  have b := g.zero t.length
  rw [ev] at a
  rw [← ev] at b
  have a2 := (g.zero u.length).mpr (Nat.le_refl _)
  have b2 := (h.zero t.length).mpr (Nat.le_refl _)
  have := a.mp a2
  have := b.mp b2
  omega
section
variable {F n : Nat} {sh : Nat → Nat × Nat} {z : St}
theorem ush8 {x : Int64} {k : Nat} (hk : k < 8) : N ((x.toUInt64 >>> ((nI (8 * k)).toInt64.toUInt64 &&& Int64.toUInt64 63)).toInt64) = N x / 256 ^ k := by rw [N_ushK (by omega), p8]
theorem m8 (k : Nat) : 8 * nI k = nI (8 * k) := by rw [show (8 : Int32) = nI 8 from rfl, pk_mul]
theorem bytesOf_t (hF : 300 ≤ F) {t : Ty} (h : TB t) : fn_X13_bytesOf F sh n z (tL t) = some (z, nI t.length) := by
  have key : ∀ r p f, p + r = t.length → r < f → fn_X13_bytesOf_L2 F sh n (tL t) f z (nI p) = some (z, nI t.length) := by
    intro r
    induction r with
    | zero =>
      intro p f e hf
      obtain ⟨f, rfl⟩ : ∃ g, f = g + 1 := ⟨f - 1, by omega⟩
      have := h.len
      unfold fn_X13_bytesOf_L2
      rw [if_neg (fun q => by have := (nIge (x := 8) 8 rfl (by omega) (by omega)).mp q; omega), m8, if_pos (N_eq0.mpr (by rw [ush8 (by omega), h.lt.2]; exact (h.zero p).mpr (by omega))), show p = t.length by omega]
    | succ r ih =>
      intro p f e hf
      obtain ⟨f, rfl⟩ : ∃ g, f = g + 1 := ⟨f - 1, by omega⟩
      have := h.len
      unfold fn_X13_bytesOf_L2
      rw [if_neg (fun q => by have := (nIge (x := 8) 8 rfl (by omega) (by omega)).mp q; omega), m8, if_neg (fun q => by
        have := N_eq0.mp q
        rw [ush8 (by omega), h.lt.2] at this
        have := (h.zero p).mp this
        omega), nI_1]
      exact ih (p + 1) f (by omega) (by omega)
  exact key t.length 0 F (by omega) (by have := h.len; omega)
theorem byte_l {x : Int64} {k : Nat} (hk : k < 8) : (((x.toUInt64 >>> ((nI (8 * k)).toInt64.toUInt64 &&& Int64.toUInt64 63)).toInt64) &&& 255).toInt32 = nI (N x / 256 ^ k % 256) := by
  have e : N (((x.toUInt64 >>> ((nI (8 * k)).toInt64.toUInt64 &&& Int64.toUInt64 63)).toInt64) &&& 255) = N x / 256 ^ k % 256 := by rw [N_255, ush8 hk]
  have g : ∀ y : Int64, y.toInt32 = nI (N y) := fun y => by rw [← lN_i32, lN_N]
  rw [g, e]
theorem byteOf_t {t : Ty} (h : TB t) {k : Nat} (hk : k < 8) : fn_X13_byteOf F sh n z (tL t) (nI k) = some (z, nI (tV t / 256 ^ k % 256)) := by
  unfold fn_X13_byteOf
  rw [m8, byte_l hk, h.lt.2]
theorem first_t (hF : 300 ≤ F) {t : Ty} (h : TB t) : fn_X13_byteOf F sh n z (tL t) (nI t.length - 1) = some (z, nI (hdT t)) := by
  obtain ⟨l1, l2⟩ := h.len
  have e : nI t.length - 1 = nI (t.length - 1) := by
    obtain ⟨m, e⟩ : ∃ m, t.length = m + 1 := ⟨t.length - 1, by omega⟩
    rw [e, ← nI_1, Int32.add_sub_cancel, Nat.add_sub_cancel]
  rw [e, byteOf_t h (by omega), h.head, Nat.mod_eq_of_lt (by have := h.2.1.2; omega)]
theorem nI_and255 (v : Nat) : nI v &&& 255 = nI (v % 256) := by
  apply Int32.toBitVec_inj.mp
  rw [Int32.toBitVec_and]
  apply BitVec.eq_of_toNat_eq
  rw [BitVec.toNat_and]
  show (v % 2 ^ 32) &&& (2 ^ 8 - 1) = v % 256 % 2 ^ 32
  rw [Nat.and_two_pow_sub_one_eq_mod]
  omega
theorem n255 : ∀ b, b < 10 → nI b &&& 255 = nI b := by decide
theorem isRefR_t (hF : 300 ≤ F) {t : Ty} (h : TB t) : fn_X13_isReference F sh n z (tL t) = some (z, bI (isR t)) := by
  have h9 := h.2.1.2
  unfold fn_X13_isReference
  rw [bytesOf_t hF h, cal_s, first_t hF h, cal_s]
  unfold isR
  by_cases c8 : hdT t = 8
  · rw [if_pos ((nIe (x := 8) 8 rfl (by omega) (by omega)).mpr c8), c8]; rfl
  · rw [if_neg (fun q => c8 ((nIe (x := 8) 8 rfl (by omega) (by omega)).mp q))]
    by_cases c9 : hdT t = 9
    · rw [if_pos ((nIe (x := 9) 9 rfl (by omega) (by omega)).mpr c9), c9]; rfl
    · rw [if_neg (fun q => c9 ((nIe (x := 9) 9 rfl (by omega) (by omega)).mp q)), beq_eq_false_iff_ne.mpr c8, beq_eq_false_iff_ne.mpr c9]; rfl
theorem writesR_t (hF : 300 ≤ F) {t : Ty} (h : TB t) : fn_X13_writes F sh n z (tL t) = some (z, bI (hdT t == 9)) := by
  have h9 := h.2.1.2
  unfold fn_X13_writes
  rw [bytesOf_t hF h, cal_s, first_t hF h, cal_s]
  by_cases c9 : hdT t = 9
  · rw [if_pos ((nIe (x := 9) 9 rfl (by omega) (by omega)).mpr c9), c9]; rfl
  · rw [if_neg (fun q => c9 ((nIe (x := 9) 9 rfl (by omega) (by omega)).mp q)), beq_eq_false_iff_ne.mpr c9]; rfl
theorem mask_l {x : Int64} {k : Nat} (hk : k < 8) : N (x &&& ((1 <<< ((nI (8 * k)).toInt64 &&& 63)) - 1)) = N x % 256 ^ k := by
  have e1 : N ((1 : Int64) <<< ((nI (8 * k)).toInt64 &&& 63)) = 2 ^ (8 * k) := by
    rw [N_shlK (by omega), N_1, Nat.one_mul, Nat.mod_eq_of_lt (Nat.pow_lt_pow_right (by omega) (by omega))]
  have p1 : 0 < 2 ^ (8 * k) := Nat.pos_of_ne_zero (by simp)
  have p2 : 2 ^ (8 * k) < 2 ^ 64 := Nat.pow_lt_pow_right (by omega) (by omega)
  have e2 : N (((1 : Int64) <<< ((nI (8 * k)).toInt64 &&& 63)) - 1) = 2 ^ (8 * k) - 1 := by
    rw [N_sub, e1, N_1]
    omega
  rw [N_and, e2, Nat.and_two_pow_sub_one_eq_mod, p8]
theorem pointedR_t (hF : 300 ≤ F) {b : Nat} {t : Ty} (h : TB (b :: t)) : fn_X13_pointed F sh n z (tL (b :: t)) = some (z, tL t) := by
  have l := h.len
  rw [List.length_cons] at l
  unfold fn_X13_pointed
  rw [bytesOf_t hF h, cal_s, List.length_cons, ← nI_1, Int32.add_sub_cancel, lt_t, m8]
  congr 2
  apply N_inj
  have h1 := tV_lt t (fun x hx => h.2.2 x (by simp [hx]))
  have h2 := pow256 (k := t.length) (by omega)
  have h3 : (256 : Nat) ^ 7 = 2 ^ 56 := by decide
  rw [mask_l (by omega), h.lt.2, h.tail]
  unfold tL
  rw [N_lN (by omega)]
theorem pre_l {b : Nat} {t : Ty} (hb : b ≤ 9) (h : TB t) (h6 : t.length ≤ 6) : ((nI b).toInt64 <<< ((nI (8 * t.length)).toInt64 &&& 63)) ||| tL t = tL (b :: t) := by
  apply N_inj
  have h1 := tV_lt t h.2.2
  have p1 := p8 t.length
  have h2 : (256 : Nat) ^ t.length ≤ 256 ^ 6 := Nat.pow_le_pow_right (by omega) h6
  have h3 : (256 : Nat) ^ 6 = 2 ^ 48 := by decide
  have h4 : b * 256 ^ t.length ≤ 9 * 2 ^ 48 := Nat.mul_le_mul hb (by omega)
  rw [N_or, N_shlK (by omega), nI_l (by omega), N_lN (by omega), h.lt.2, Nat.mod_eq_of_lt (by rw [p1]; omega)]
  rw [← Nat.shiftLeft_eq, ← Nat.shiftLeft_add_eq_or_of_lt (by rw [p1]; exact h1), Nat.shiftLeft_eq, p1]
  unfold tL
  rw [N_lN]
  · rfl
  · show b * 256 ^ t.length + tV t < 2 ^ 63
    omega
theorem beforeR_t (hF : 300 ≤ F) {b : Nat} {t : Ty} (hb : b ≤ 9) (h : TB t) (h6 : t.length ≤ 6) : fn_X13_before F sh n z (nI b) (tL t) = some (z, tL (b :: t)) := by
  unfold fn_X13_before
  rw [bytesOf_t hF h, cal_s, m8, pre_l hb h h6]
/-- the class's side -/
theorem shiftC_t (hF : 300 ≤ F) {t : Ty} (h : TB t) : fn_X5_headShift F sh n z (tL t) = some (z, nI (8 * (t.length - 1))) ∧ fn_X5_head F sh n z (tL t) = some (z, nI (hdT t)) := by
  obtain ⟨l1, l2⟩ := h.len
  have key : ∀ r p f, p = t.length - 1 + r → p ≤ 7 → r < f → fn_X5_headShift_L3 F sh n (tL t) f z (nI (8 * p)) = some (z, nI (8 * (t.length - 1))) ∧ fn_X5_head_L3 F sh n (tL t) f z (nI (8 * p)) = some (z, nI (hdT t)) := by
    intro r
    induction r with
    | zero =>
      intro p f e hp hf
      obtain ⟨f, rfl⟩ : ∃ g, f = g + 1 := ⟨f - 1, by omega⟩
      have ep : p = t.length - 1 := by omega
      have eN : N ((tL t).toUInt64 >>> ((nI (8 * p)).toInt64.toUInt64 &&& Int64.toUInt64 63)).toInt64 = hdT t := by rw [ush8 (by omega), h.lt.2, ep, h.head]
      have g : ∀ y : Int64, y.toInt32 = nI (N y) := fun y => by rw [← lN_i32, lN_N]
      have gy : (((tL t).toUInt64 >>> ((nI (8 * p)).toInt64.toUInt64 &&& Int64.toUInt64 63)).toInt64).toInt32 &&& 255 = nI (hdT t) := by
        rw [g, eN, n255 _ (by have := h.2.1.2; omega)]
      have nz : ¬ ((tL t).toUInt64 >>> ((nI (8 * p)).toInt64.toUInt64 &&& Int64.toUInt64 63)).toInt64 = 0 := fun q => by
        have := N_eq0.mp q
        have := h.2.1.1
        omega
      constructor
      · conv => lhs; unfold fn_X5_headShift_L3
        by_cases c : nI (8 * p) ≤ 0
        · rw [if_pos c, ep]
        · rw [if_neg c, if_neg nz, ep]
      · conv => lhs; unfold fn_X5_head_L3
        by_cases c : nI (8 * p) ≤ 0
        · rw [if_pos c, gy]
        · rw [if_neg c, if_neg nz, gy]
    | succ r ih =>
      intro p f e hp hf
      obtain ⟨f, rfl⟩ : ∃ g, f = g + 1 := ⟨f - 1, by omega⟩
      obtain ⟨q, rfl⟩ : ∃ q, p = q + 1 := ⟨p - 1, by omega⟩
      have zz : ((tL t).toUInt64 >>> ((nI (8 * (q + 1))).toInt64.toUInt64 &&& Int64.toUInt64 63)).toInt64 = 0 := N_eq0.mpr (by rw [ush8 (by omega), h.lt.2, h.zero]; omega)
      have ng : ¬ nI (8 * (q + 1)) ≤ 0 := nI_nle (by omega) (by omega)
      have e8 : nI (8 * (q + 1)) + (-8) = nI (8 * q) := by
        rw [show 8 * (q + 1) = 8 * q + 8 by omega, ← nI_add, Int32.add_assoc, show nI 8 + (-8) = (0 : Int32) from rfl, Int32.add_zero]
      obtain ⟨i1, i2⟩ := ih q f (by omega) (by omega) (by omega)
      constructor
      · conv => lhs; unfold fn_X5_headShift_L3
        rw [if_neg ng, if_pos zz, e8, i1]
      · conv => lhs; unfold fn_X5_head_L3
        rw [if_neg ng, if_pos zz, e8, i2]
  have k := key (7 - (t.length - 1)) 7 F (by omega) (by omega) (by omega)
  exact ⟨k.1, k.2⟩
theorem isRefC_t (hF : 300 ≤ F) {t : Ty} (h : TB t) : fn_X5_isReference F sh n z (tL t) = some (z, bI (isR t)) := by
  have h9 := h.2.1
  unfold fn_X5_isReference
  rw [(shiftC_t hF h).2, cal_s]
  unfold isR
  by_cases c : hdT t < 8
  · rw [if_pos ((nIlt (x := 8) 8 rfl (by omega) (by omega)).mpr c), beq_eq_false_iff_ne.mpr (by omega), beq_eq_false_iff_ne.mpr (by omega)]; rfl
  · rw [if_neg (fun q => c ((nIlt (x := 8) 8 rfl (by omega) (by omega)).mp q))]
    have : hdT t = 8 ∨ hdT t = 9 := by omega
    rcases this with e | e <;> rw [e] <;> rfl
theorem pointC_t (hF : 300 ≤ F) {b : Nat} {t : Ty} (h : TB (b :: t)) : fn_X5_pointee F sh n z (tL (b :: t)) = some (z, tL t) := by
  have l := h.len
  rw [List.length_cons] at l
  unfold fn_X5_pointee
  rw [(shiftC_t hF h).1, cal_s, List.length_cons, Nat.add_sub_cancel]
  congr 2
  apply N_inj
  have h1 := tV_lt t (fun x hx => h.2.2 x (by simp [hx]))
  have h2 := pow256 (k := t.length) (by omega)
  have h3 : (256 : Nat) ^ 7 = 2 ^ 56 := by decide
  rw [mask_l (by omega), h.lt.2, h.tail]
  unfold tL
  rw [N_lN (by omega)]
theorem prefC_t (hF : 300 ≤ F) {b : Nat} {t : Ty} (hb : b ≤ 9) (h : TB t) (h6 : t.length ≤ 6) : fn_X5_prefixed F sh n z (nI b) (tL t) = some (z, tL (b :: t)) := by
  have l := h.len
  unfold fn_X5_prefixed
  have e8 : nI (8 * (t.length - 1)) + 8 = nI (8 * t.length) := by rw [show (8 : Int32) = nI 8 from rfl, nI_add, show 8 * (t.length - 1) + 8 = 8 * t.length by omega]
  rw [(shiftC_t hF h).1, cal_s, lt_t, e8, if_pos ((nIle (x := 56) 56 rfl (by omega) (by omega)).mpr (by omega)), pre_l hb h h6]
/-- the last two bytes -/
theorem endS_v : ∀ t : Ty, (∀ b, b ∈ t → b < 256) → 2 ≤ t.length → endS t = if tV t / 256 % 256 = 6 then some (tV t % 256) else none
  | [], _, h => by simp at h
  | [_], _, h => by simp at h
  | [a, s], hb, _ => by
    have h1 := hb a (by simp)
    have h2 := hb s (by simp)
    have e : tV [a, s] = a * 256 + s := by simp [tV]
    rw [e]
    have e1 : (a * 256 + s) / 256 % 256 = a := by omega
    have e2 : (a * 256 + s) % 256 = s := by omega
    rw [e1, e2]
    rfl
  | a :: b :: c :: t, hb, _ => by
    have ih := endS_v (b :: c :: t) (fun x hx => hb x (by simp at hx ⊢; right; exact hx)) (by simp)
    have e : endS (a :: b :: c :: t) = endS (b :: c :: t) := rfl
    rw [e, ih]
    have ev : tV (a :: b :: c :: t) = a * 256 ^ (t.length + 2) + tV (b :: c :: t) := rfl
    have ep : 256 ^ (t.length + 2) = 256 ^ t.length * 65536 := by rw [Nat.pow_add]
    rw [ev, ep, ← Nat.mul_assoc]
    generalize a * 256 ^ t.length = k
    generalize tV (b :: c :: t) = v
    have e1 : (k * 65536 + v) / 256 % 256 = v / 256 % 256 := by omega
    have e2 : (k * 65536 + v) % 256 = v % 256 := by omega
    rw [e1, e2]
theorem TB.ends {t : Ty} (h : TB t) : endS t = if tV t / 256 % 256 = 6 then some (tV t % 256) else none := by
  have l := h.len
  by_cases c : 2 ≤ t.length
  · exact endS_v t h.2.2 c
  · obtain ⟨b, q, e, b1, b2⟩ := h.ne
    subst e
    have : q = [] := by
      cases q with
      | nil => rfl
      | cons _ _ => simp at c
    subst this
    have e : tV [b] = b := by simp [tV]
    rw [e, if_neg (by omega)]
    rfl
theorem endsC_t {t : Ty} (h : TB t) : fn_X5_endsInStructure F sh n z (tL t) = some (z, bI (endS t).isSome) ∧ (∀ s, endS t = some s → (tL t).toInt32 &&& 255 = nI s) := by
  have e1 : N ((((tL t).toUInt64 >>> ((8 : Int32).toInt64.toUInt64 &&& Int64.toUInt64 63)).toInt64) &&& 255) = tV t / 256 % 256 := by
    have := ush8 (x := tL t) (k := 1) (by omega)
    rw [N_255, show ((8 : Int32)) = nI (8 * 1) from rfl, this, h.lt.2]
  constructor
  · unfold fn_X5_endsInStructure
    rw [h.ends]
    by_cases c : tV t / 256 % 256 = 6
    · rw [if_pos (N_inj (by rw [e1, c]; rfl)), if_pos c]; rfl
    · rw [if_neg (fun q => c (by rw [← e1, q]; rfl)), if_neg c]; rfl
  · intro s hs
    rw [h.ends] at hs
    by_cases c : tV t / 256 % 256 = 6
    · rw [if_pos c] at hs
      have es : tV t % 256 = s := by simpa using hs
      have g : (tL t).toInt32 = nI (tV t) := by unfold tL; rw [lN_i32]
      rw [g, nI_and255, es]
    · rw [if_neg c] at hs; exact absurd hs (by simp)
end
