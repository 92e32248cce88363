/-! A MODULE'S BYTES ARE LAID DOWN: one cell more -/
theorem fits_id {v : Int32} (h : fits .byte (.int v) = true) : vp_nar .byte v = v := by
  have h' : (decide ((-128 : Int32) ≤ v) && decide (v ≤ 127)) = true := h
  rw [Bool.and_eq_true, decide_eq_true_eq, decide_eq_true_eq, Int32.le_iff_toInt_le, Int32.le_iff_toInt_le] at h'
  have d : (-128 : Int32).toInt = -128 := by decide
  have e : (127 : Int32).toInt = 127 := by decide
  apply Int32.toInt_inj.mp
  show v.toInt8.toInt32.toInt = v.toInt
  rw [Int8.toInt_toInt32]
  rw [Int32.toInt_toInt8, Int.bmod_eq_of_le (by omega) (by omega)]
section
variable {RV : RtV} {F n n' : Nat} {sh sh' : Nat → Nat × Nat} {z z' y y' : St} {ws : Nat → Md} {wc : Nat} {dp : Nat → Nat → Nat} {bs : Nat → Nat × (Nat → Nat)} {kp kb len cnt : Nat} {b : Nat → Nat} {M : MP}
theorem Lay.grow (h : Lay sh n z) (hn : n ≤ n') (hs : ∀ k, k < n → sh' k = sh k) : Lay sh' n' z := ⟨by have := h.1; omega, fun k hk => by rw [hs k (by have := h.1; omega)]; exact h.2.1 k hk, h.2.2⟩
theorem rb_grow {i v : Int32} (h : rb sh n y kb i = some v) (hn : n ≤ n') (hs : ∀ k, k < n → sh' k = sh k) (g : ∀ k, 513 ≤ k → k < n → y'.1 k = y.1 k) (hk : 513 ≤ kb) : rb sh' n' y' kb i = some v := by
  unfold rb at h ⊢
  by_cases c : kb = CBK
  · rw [if_pos c] at h ⊢; exact h
  · rw [if_neg c] at h ⊢
    by_cases o : okA sh n kb 100 i = true
    · rw [if_pos o] at h
      unfold okA okO at o ⊢
      simp only [Bool.and_eq_true, decide_eq_true_eq, beq_iff_eq] at o
      have k1 := o.1.1
      rw [if_pos, g kb hk k1]
      · exact h
      · rw [hs kb k1]
        simp only [Bool.and_eq_true, decide_eq_true_eq, beq_iff_eq]
        exact ⟨⟨by omega, o.1.2⟩, o.2⟩
    · rw [if_neg o] at h; cases h
theorem CPr.grow (h : CPr sh n y kp kb b len M) (hl : Lay sh' n' y') (h0 : y'.2.2 kp 0 = y.2.2 kp 0) (g : ∀ k, kp ≤ k → k ≤ kp + 4 → y'.1 k = y.1 k ∧ y'.2.1 k = y.2.1 k) (hn : n ≤ n') (hs : ∀ k, k < n → sh' k = sh k) (gk : ∀ k, 513 ≤ k → k < n → y'.1 k = y.1 k) (hk : 513 ≤ kb) : CPr sh' n' y' kp kb b len M := by
  obtain ⟨⟨a1, a2, a3, a4⟩, h2, h3, h4, h5⟩ := h
  have g1 : ∀ k, kp ≤ k → k ≤ kp + 4 → y'.1 k = y.1 k := fun k q1 q2 => (g k q1 q2).1
  refine ⟨⟨hl, a2, ?_, a4⟩, by rw [h0]; exact h2, by rw [g1 kp (by omega) (by omega)]; exact h3, h4, fun p hp => ?_⟩
  · obtain ⟨t1, t2, t3, t4, t5, t6, t7, t8, t9⟩ := a3
    refine ⟨by rw [g1 kp (by omega) (by omega)]; exact t1, fun k hk => ?_, fun k hk => ?_, fun k hk => ?_, fun k hk => ?_, ?_, ?_, t8, t9⟩
    · have := t2 k hk; unfold SRo at this ⊢; rw [g1 (kp + 3) (by omega) (by omega)]; exact this
    · have := t3 k hk; unfold FoR at this ⊢; rw [g1 (kp + 3) (by omega) (by omega)]; exact this
    · have := t4 k hk; unfold CRo at this ⊢; rw [g1 (kp + 4) (by omega) (by omega)]; exact this
    · have := t5 k hk; unfold GRo at this ⊢; rw [g1 (kp + 4) (by omega) (by omega)]; exact this
    · unfold TyT at t6 ⊢; rw [g1 kp (by omega) (by omega), (g (kp + 1) (by omega) (by omega)).2]; exact t6
    · unfold SrT at t7 ⊢; rw [g1 kp (by omega) (by omega), g1 (kp + 2) (by omega) (by omega)]; exact t7
  · obtain ⟨v, v1, v2⟩ := h5 p hp
    exact ⟨v, rb_grow v1 hn hs gk hk, v2⟩
theorem Wor.grow (h : Wor sh n z y ws wc dp bs) (hn : n ≤ n') (hs : ∀ k, k < n → sh' k = sh k) (fz : FzB z z') (ly : Lay sh' n' y') (y5 : y'.1 3 5 = y.1 3 5) (yl : ∀ k, 15 ≤ k → k < 60 → y'.2.2 k 0 = y.2.2 k 0) (yk : ∀ k, 15 ≤ k → k < 60 → y'.1 k = y.1 k ∧ y'.2.1 k = y.2.1 k) (gk : ∀ k, 513 ≤ k → k < n → y'.1 k = y.1 k) : Wor sh' n' z' y' ws wc dp bs := by
  have w8 := h.2.2.1.2.2.1
  obtain ⟨hr, ⟨k1, k2, k3, k4⟩, hS, hB⟩ := h
  have lz : Lay sh' n' z' := (hr.1.of fz.1).grow hn hs
  obtain ⟨h1, h2, h3, h4⟩ := hr.fz fz
  refine ⟨⟨lz, h2, h3, fun i a b => ?_⟩, ⟨ly, by rw [y5]; exact k2, k3, fun i hi => ?_⟩, hS, fun i a b => ?_⟩
  · obtain ⟨⟨b', len, M, ⟨⟨u1, u2⟩, u3⟩, c2⟩, c3⟩ := h4 i a b
    exact ⟨⟨b', len, M, ⟨⟨lz, u2⟩, u3⟩, c2⟩, c3⟩
  · obtain ⟨⟨kb, b, len, M, c1, c2, c3, c4⟩, c5⟩ := k4 i hi
    exact ⟨⟨kb, b, len, M, c1.grow ly (yl _ (by omega) (by omega)) (fun k q1 q2 => yk k (by omega) (by omega)) hn hs gk c3, c2, c3, c4⟩, fun s hs => by rw [(yk (15 + 5 * i + 3) (by omega) (by omega)).1]; exact c5 s hs⟩
  · obtain ⟨kb, c1, c2, c3, c4, c5, c6⟩ := hB i a b
    refine ⟨kb, by rw [yl _ (by omega) (by omega)]; exact c1, c2, by rw [(yk _ (by omega) (by omega)).1]; exact c3, by rw [(fz.2.1 _ (by omega) (by omega)).1]; exact c4, c5, fun p hp => ?_⟩
    rw [(fz.2.1 _ (by omega) (by omega)).1]
    obtain ⟨d1, d2, v, d3, d4⟩ := c6 p hp
    exact ⟨d1, d2, v, rb_grow d3 hn hs gk c2, d4⟩
/-- the tape is copied into a new cell -/
theorem copy_t (hL : Lay sh n y) (hn : n < CBK) (fb : ∀ p, p < 2048 → fits .byte (.int (y.1 1 p)) = true) (hl : len ≤ 2048) : ∃ y', fa_J7_copyOf_9075b F sh n y 1 (nI len) = some (shx sh n (100, len), n + 1, y', some n) ∧ (∀ k, k ≠ n → y'.1 k = y.1 k ∧ y'.2.1 k = y.2.1 k ∧ y'.2.2 k = y.2.2 k) ∧ (∀ p, p < len → y'.1 n p = y.1 1 p) ∧ ∀ j, y'.2.2 n j = none := by
  have s1 : sh 1 = (100, 2048) := hL.2.1 1 (by omega)
  have n513 := hL.1
  have by1 : okBy 2048 (y.1 1) = true := List.all_eq_true.mpr (fun j hj => fb j (List.mem_range.mp hj))
  have oN : okN n 1 = true := by
    unfold okN
    rw [decide_eq_true (show 1 < n by omega)]; rfl
  unfold fa_J7_copyOf_9075b
  rw [lay_o hL 1 100 2048 (by decide) rfl, grd_true, s1]
  by_cases q : len = 2048
  · subst q
    rw [if_pos (show nI 2048 = Int32.ofNat ((100, 2048) : Nat × Nat).2 from rfl), show okBy ((100, 2048) : Nat × Nat).2 (y.1 1) = true from by1, grd_true, decide_eq_true (show ((100, 2048) : Nat × Nat).2 ≤ 2048 from Nat.le_refl _), grd_true, oN, grd_true]
    unfold alk
    rw [decide_eq_true hn, grd_true, s1]
    refine ⟨_, rfl, fun k a => ⟨?_, ?_, ?_⟩, fun p _ => ?_, fun j => ?_⟩
    · funext j; exact if_neg a
    · funext j; exact if_neg a
    · funext j; exact if_neg a
    · exact if_pos rfl
    · exact if_pos rfl
  · have nq : ¬ nI len = Int32.ofNat 2048 := fun e => q (nI_uq (b := 2048) e (by omega) (by omega))
    have sx1 : shx sh n (100, len) 1 = (100, 2048) := by
      unfold shx
      rw [if_neg (by omega)]; exact s1
    have sxn : shx sh n (100, len) n = (100, len) := by
      unfold shx
      rw [if_pos rfl]
    have oL : okL (nI len) 2048 = true := by
      unfold okL
      rw [nI_toInt (by omega), nI_clamp (by omega)]
      simp only [Bool.and_eq_true, decide_eq_true_eq]
      omega
    have ok1 : okO (shx sh n (100, len)) (n + 1) 1 100 = true := okO_of (by omega) (by rw [sx1])
    have okn : okO (shx sh n (100, len)) (n + 1) n 100 = true := okO_of (by omega) (by rw [sxn])
    have lt : nI len < Int32.ofNat 2048 := (nI_ltW (b := 2048) (by omega) (by omega)).mpr (by omega)
    have oC : okC 2048 len 0 0 (nI len) = true := by
      unfold okC
      rw [nI_toInt (by omega), nI_clamp (by omega)]
      simp only [Bool.and_eq_true, decide_eq_true_eq]
      have : (0 : Int32).toInt = 0 := rfl
      have : (0 : Int32).toNatClampNeg = 0 := rfl
      omega
    have z1 : (zx y n).1 1 = y.1 1 := by
      funext j
      exact if_neg (by omega)
    rw [if_neg nq, oL, grd_true, oN, grd_true]
    unfold alc
    have ncl : (nI len).toNatClampNeg = len := nI_clamp (by omega)
    rw [decide_eq_true hn, grd_true, ncl]
    simp only [ok1, grd_true, sx1, if_pos lt, lt_t, okn, sxn, oC, z1, by1, ncl]
    refine ⟨_, rfl, fun k a => ⟨?_, ?_, ?_⟩, fun p hp => ?_, fun j => ?_⟩
    · funext j
      show (if k = n then _ else (zx y n).1 k j) = _
      rw [if_neg a]; exact if_neg a
    · funext j; exact if_neg a
    · funext j; exact if_neg a
    · show (if n = n then va_cpy (y.1 1) ((zx y n).1 n) 0 0 len p else _) = _
      rw [if_pos rfl]
      unfold va_cpy
      rw [if_pos (by omega)]
      exact congrArg _ (by omega)
    · exact if_pos rfl
/-- bytes of a publishing transaction, the reference's side -/
def cpZ (z : St) (c p : Nat) : St := (fun k j => if k = 410 ∧ 2048 * c ≤ j ∧ j < 2048 * c + p then z.1 399 (j - 2048 * c) else z.1 k j, z.2)
theorem cpZ_0 {c : Nat} : cpZ z c 0 = z := by
  unfold cpZ
  refine Prod.ext ?_ rfl
  funext k j
  exact if_neg (by omega)
theorem cpZ_s {c p : Nat} : si (cpZ z c p) 410 (2048 * c + p) (z.1 399 p) = cpZ z c (p + 1) := by
  refine Prod.ext ?_ rfl
  funext k j
  rw [si_1]
  show (if k = 410 then (if j = 2048 * c + p then z.1 399 p else (cpZ z c p).1 410 j) else (cpZ z c p).1 k j) = (if k = 410 ∧ 2048 * c ≤ j ∧ j < 2048 * c + (p + 1) then z.1 399 (j - 2048 * c) else z.1 k j)
  have e : ∀ k j, (cpZ z c p).1 k j = (if k = 410 ∧ 2048 * c ≤ j ∧ j < 2048 * c + p then z.1 399 (j - 2048 * c) else z.1 k j) := fun _ _ => rfl
  by_cases q : k = 410
  · rw [if_pos q]
    by_cases q2 : j = 2048 * c + p
    · rw [if_pos q2, if_pos ⟨q, by omega, by omega⟩]
      exact congrArg _ (by omega)
    · rw [if_neg q2, e]
      by_cases q3 : 2048 * c ≤ j ∧ j < 2048 * c + p
      · rw [if_pos ⟨rfl, q3⟩, if_pos ⟨q, by omega, by omega⟩]
      · rw [if_neg (by omega), if_neg (by omega), q]
  · rw [if_neg q, e, if_neg (by omega), if_neg (by omega)]
theorem cpZ_o {c p k : Nat} (h : k ≠ 410) : (cpZ z c p).1 k = z.1 k := by
  funext j
  exact if_neg (by omega)
theorem fzK_c {c p : Nat} (hp : p ≤ 2048) : FzK c z (cpZ z c p) := ⟨rfl, fun k a b => cpZ_o (by omega), fun _ _ => rfl, fun j _ _ => by rw [cpZ_o (by omega)], fun t ht => ⟨fun k q => by rw [cpZ_o (by omega)], rfl, rfl, fun i hi => ⟨by rw [cpZ_o (by omega)], rfl, rfl⟩, fun q hq => if_neg (by omega)⟩⟩
theorem pub_L (hL : Lay sh n z) (h50 : z.1 337 50 = nI len) (hl : len ≤ 2048) (hc : cnt < 32) (hb : ∀ p, p < len → fits .byte (.int (z.1 399 p)) = true) : ∀ m p f, p + m = len → m < f → fn_X18_publish_L36 F sh n 337 (nI cnt) f (cpZ z cnt p) (nI p) = some (si (si (cpZ z cnt len) 411 cnt (nI len)) 337 50 0, nI cnt) := by
  intro m
  induction m with
  | zero =>
    intro p f h1 h2
    cases f with
    | zero => omega
    | succ f =>
      have e : p = len := by omega
      subst e
      unfold fn_X18_publish_L36
      rw [cpZ_o (by omega), h50, if_pos (by rw [Int32.le_iff_toInt_le]; exact Int.le_refl _)]
      show lnk (z.2.2 337 65) _ = _
      rw [hL.2.2 337 65 411 rfl, lnk_s, md_at hL hc 411 101 rfl (by decide), grd_true, nI_clamp (by omega), lt_t, lt_t]
  | succ m ih =>
    intro p f h1 h2
    cases f with
    | zero => omega
    | succ f =>
      have r := ih (p + 1) f (by omega) (by omega)
      unfold fn_X18_publish_L36
      have ng : ¬ nI len ≤ nI p := fun e => by
        have := (nI_leW (a := len) (b := p) (by omega) (by omega)).mp e
        omega
      have e2 : (2048 * nI cnt + nI p : Int32) = nI (2048 * cnt + p) := by
        rw [show (2048 : Int32) = nI 2048 from rfl, pk_mul, nI_add]
      rw [cpZ_o (by omega), h50, if_neg ng]
      show lnk (z.2.2 337 64) (fun k_20 => lnk (z.2.2 337 49) _) = _
      rw [hL.2.2 337 64 410 rfl, lnk_s, hL.2.2 337 49 399 rfl, lnk_s, lay_a hL 399 100 2048 (by decide) rfl, okI_nI (by omega) (by omega), grd_true, e2, lay_a hL 410 100 65536 (by decide) rfl, okI_nI (by omega) (by omega), grd_true, nI_clamp (by omega), nI_clamp (by omega), cpZ_o (by omega), fits_id (hb p (by omega)), cpZ_s, lt_t, show nI p + 1 = nI (p + 1) from nI_add p 1]
      exact r
end
