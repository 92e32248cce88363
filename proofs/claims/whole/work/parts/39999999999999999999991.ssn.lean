/-! MISFITS, THE REFERENCE: foreign structures -/
theorem nI_sar8 {v : Nat} (h : v < 2 ^ 31) : (nI v >>> ((8 : Int32) &&& 31) : Int32) = nI (v / 256) := by
  apply Int32.toBitVec_inj.mp
  have e : (nI v >>> ((8 : Int32) &&& 31)).toBitVec = (nI v).toBitVec.sshiftRight 8 := rfl
  have m : (nI v).toBitVec.msb = false := by
    rw [BitVec.msb_eq_decide]
    apply decide_eq_false
    show ¬ 2 ^ (32 - 1) ≤ v % 2 ^ 32
    rw [Nat.mod_eq_of_lt (by omega)]
    omega
  rw [e, BitVec.sshiftRight_eq_of_msb_false m]
  apply BitVec.eq_of_toNat_eq
  rw [BitVec.toNat_ushiftRight]
  show (v % 2 ^ 32) >>> 8 = (v / 256) % 2 ^ 32
  rw [Nat.mod_eq_of_lt (by omega), Nat.shiftRight_eq_div_pow, Nat.mod_eq_of_lt (by omega)]
section
variable {F n : Nat} {sh : Nat → Nat × Nat} {z z' : St} {ku len : Nat} {b : Nat → Nat} {M : MP} {ws : Nat → Md} {wc : Nat} {dp : Nat → Nat → Nat}
theorem RWo.isT (hF : 300 ≤ F) (h : RWo sh n z ws wc dp) (hN : WNo ws wc) {hm x : Nat} (hh : hm < 65536) (hx : x < 256) : fn_X18_isThere F sh n z 337 (nI hm) (nI x) 1 = some (z, bI (match wfi ws hm (wc + 1) 0 with | none => false | some i => decide (x < (ws i).1.2.1))) ∧ fn_X18_isThere F sh n z 337 (nI hm) (nI x) 0 = some (z, bI (match wfi ws hm (wc + 1) 0 with | none => false | some i => decide (x < fsOf (ws i)))) := by
  unfold fn_X18_isThere fn_X18_isThere_B72
  by_cases c : hm = 0
  · subst c
    rw [hN.zero]
    show _ = some (z, bI (decide (x < (ws 0).1.2.1))) ∧ _ = some (z, bI (decide (x < fsOf (ws 0))))
    rw [hN.1, show U0.1.2.1 = 1 from rfl, show fsOf U0 = 6 from rfl, if_pos (show nI 0 = 0 from rfl), if_pos (show nI 0 = 0 from rfl), if_neg (show ¬ (1 : Int32) = 0 by decide), if_pos (show (0 : Int32) = 0 from rfl)]
    constructor
    · by_cases d : x = 0
      · rw [if_pos ((nIe (x := 0) 0 rfl (by omega) (by omega)).mpr d), decide_eq_true (show x < 1 by omega)]; rfl
      · rw [if_neg (fun y => d ((nIe (x := 0) 0 rfl (by omega) (by omega)).mp y)), decide_eq_false (show ¬ x < 1 by omega)]; rfl
    · by_cases d : 6 ≤ x
      · rw [if_pos ((nIge (x := 6) 6 rfl (by omega) (by omega)).mpr d), decide_eq_false (show ¬ x < 6 by omega)]; rfl
      · rw [if_neg (fun y => d ((nIge (x := 6) 6 rfl (by omega) (by omega)).mp y)), decide_eq_true (show x < 6 by omega)]; rfl
  · have fd := h.find (F := F) (by omega) hN (num := hm) (by omega) hh
    obtain ⟨hL, h2, h3, h4⟩ := h
    have o18 := (b_model hL).1
    have m4 := hL.2.2 337 4 341 rfl
    have oa := b_units_a hL
    have nz : ¬ nI hm = 0 := nI_ne0 (by omega) (by omega)
    rw [if_neg nz, if_neg nz, o18, grd_true, grd_true, fd, cal_s, cal_s, if_neg (show ¬ (1 : Int32) = 0 by decide), if_pos (show (0 : Int32) = 0 from rfl)]
    rcases wix_s hN (num := hm) (by omega) with ⟨q, q0⟩ | ⟨q, q1, q2⟩
    · rw [q, q0, if_pos (show nI 0 ≤ 0 by decide), if_pos (show nI 0 ≤ 0 by decide)]
      exact ⟨rfl, rfl⟩
    · rw [q]
      generalize wix ws wc hm = i at q1 q2
      obtain ⟨⟨b, len, M, c1, c2, c3, c4, _⟩, _⟩ := h4 i q1 q2
      have lk := (b_units hL (i := i) (by omega)).1
      have l1 := c1.2.2.1.1
      have l2 := c1.2.2.2.2.2.2.1
      show _ = some (z, bI (decide (x < (ws i).1.2.1))) ∧ _ = some (z, bI (decide (x < fsOf (ws i))))
      have n0 : ¬ nI i ≤ 0 := fun y => by have := (nIle (x := 0) 0 rfl (by omega) (by omega)).mp y; omega
      rw [c2, if_neg n0, if_neg n0, m4, lnk_s, lnk_s, oa, okI_nI (by omega) (by omega), grd_true, grd_true, nI_clamp (by omega), lk, lnk_s, lnk_s, c1.1.o, grd_true, grd_true, c1.2.1.1, c1.2.1.2.2.2.2.2.2.2.2.1]
      show _ = some (z, bI (decide (x < M.1.length))) ∧ _ = some (z, bI (decide (x < M.2.2.2.2.length)))
      constructor
      · by_cases d : M.1.length ≤ x
        · rw [if_pos ((nI_leI (by omega) (by omega)).mpr d), decide_eq_false (by omega)]; rfl
        · rw [if_neg (fun y => d ((nI_leI (by omega) (by omega)).mp y)), decide_eq_true (by omega)]; rfl
      · by_cases d : M.2.2.2.2.length ≤ x
        · rw [if_pos ((nI_leI (by omega) (by omega)).mpr d), decide_eq_false (by omega)]; rfl
        · rw [if_neg (fun y => d ((nI_leI (by omega) (by omega)).mp y)), decide_eq_true (by omega)]; rfl
/-- what the reference tells of a misfit -/
def tlR (z : St) (w : Int32) (own : Nat) (K : Option (St × Int32)) : Option Nat → Option (St × Int32)
  | none => K
  | some p => some (si z 337 23 (nI (p - own)), w)
theorem RWo.l80 (hF : 300 ≤ F) (h : RWo sh n z ws wc dp) (hN : WNo ws wc) (hu : UM sh n z ku b len M) (h6 : 6 ≤ len) (x3 : Int32) : ∀ r s g, M.1.length ≤ s → s + r = M.1.length + M.2.1.length → r < g → fn_X18_takeModule_L80 F sh n ku 337 x3 g z (nI s) = tlR z 22 M.1.length (fn_X18_takeModule_L171 F sh n ku 337 x3 F z (nI M.2.2.2.2.length)) (fbad (strOk ws wc (mdOf b M)) r s) := by
  have pk := hu.2.2
  have l1 := pk.1.1
  have l2 := pk.2.1.1
  have hb : ∀ q, q < len → b q < 256 := fun q hq => (hu.1.2.2.2.2 q hq).2
  have o16 := hu.1.o
  have o18 := (b_model h.1).1
  intro r
  induction r with
  | zero =>
    intro s g co es hg
    obtain ⟨g, rfl⟩ : ∃ q, g = q + 1 := ⟨g - 1, by omega⟩
    unfold fn_X18_takeModule_L80 fn_X16_structureCount
    rw [o16, grd_true, hu.2.1.1, hu.2.1.2.2.1, nI_add, cal_s, if_pos ((nI_leI (by omega) (by omega)).mpr (by omega)), lt_t, hu.2.1.2.2.2.2.2.2.2.2.1]
    rfl
  | succ r ih =>
    intro s g co es hg
    obtain ⟨g, rfl⟩ : ∃ q, g = q + 1 := ⟨g - 1, by omega⟩
    have hs : s < M.1.length + M.2.1.length := by omega
    have idl := id_lt pk hb h6 hs
    have idn := hu.identity (F := F) h6 hs
    have so : strOk ws wc (mdOf b M) s = match wfi ws ((mdOf b M).2.2.2.1 s / 256) (wc + 1) 0 with
      | none => false
      | some i => decide ((mdOf b M).2.2.2.1 s % 256 < (ws i).1.2.1) && decide ((ws i).2.1 ((mdOf b M).2.2.2.1 s % 256) = (mdOf b M).2.1 s) := rfl
    unfold fn_X18_takeModule_L80 fn_X16_structureCount fn_X18_takeModule_B143 fn_X18_tell fbad
    rw [o16, grd_true, hu.2.1.1, hu.2.1.2.2.1, nI_add, cal_s, if_neg (fun y => by have := (nI_leI (by omega) (by omega)).mp y; omega), idn, cal_s]
    generalize hid : (mdOf b M).2.2.2.1 s = id at *
    rw [nI_sar8 (by omega), nI_and255]
    have it := (h.isT (F := F) hF hN idl (show id % 256 < 256 by omega)).1
    have sub : nI s - nI M.1.length = nI (s - M.1.length) := pk_sub co
    have bad : strOk ws wc (mdOf b M) s = false → cal (grd (okO sh n 337 18) (lt_ (si z 337 23 (nI s - nI M.1.length)) (fun z_3 => some (z_3, 22)))) (fun z_98 r_99 => some (z_98, r_99)) = tlR z 22 M.1.length (fn_X18_takeModule_L171 F sh n ku 337 x3 F z (nI M.2.2.2.2.length)) (if strOk ws wc (mdOf b M) s = true then fbad (strOk ws wc (mdOf b M)) r (s + 1) else some s) := fun q => by
      rw [o18, grd_true, lt_t, cal_s, sub, q, if_neg (by simp)]
      rfl
    cases e : wfi ws (id / 256) (wc + 1) 0 with
    | none =>
      rw [e] at so it
      have it' : fn_X18_isThere F sh n z 337 (nI (id / 256)) (nI (id % 256)) 1 = some (z, 0) := it
      rw [it', cal_s, if_pos rfl, hu.2.1.1]
      exact bad so
    | some i =>
      rw [e] at so it
      have so' : strOk ws wc (mdOf b M) s = (decide (id % 256 < (ws i).1.2.1) && decide ((ws i).2.1 (id % 256) = (mdOf b M).2.1 s)) := so
      have it' : fn_X18_isThere F sh n z 337 (nI (id / 256)) (nI (id % 256)) 1 = some (z, bI (decide (id % 256 < (ws i).1.2.1))) := it
      by_cases d : id % 256 < (ws i).1.2.1
      · rw [decide_eq_true d] at it' so'
        have th := (h.there (F := F) hF hN idl e).1 _ d
        have a16 : (ws i).2.1 (id % 256) < 16 := by
          obtain ⟨_, w2, w3⟩ := wfi_s e
          by_cases c0 : i = 0
          · subst c0
            rw [hN.1] at d ⊢
            have d' : id % 256 < 1 := d
            have : id % 256 = 0 := by omega
            rw [this]; show 4 < 16; omega
          · obtain ⟨⟨b', len', M', c1, c2, c3, c4, _⟩, _⟩ := h.2.2.2 i (by omega) (by omega)
            rw [c2] at d ⊢
            have d' : id % 256 < M'.1.length := d
            exact ab_lt c1.2.2 (by omega)
        have a16' := ab_lt pk hs
        rw [it', cal_s, if_neg (show ¬ bI true = 0 by decide), th, cal_s, hu.ab hs, cal_s]
        by_cases q : (ws i).2.1 (id % 256) = (mdOf b M).2.1 s
        · rw [decide_eq_true q] at so'
          rw [if_pos (by rw [q]), so', show (true && true) = true from rfl, if_pos (show true = true from rfl), nI_1]
          exact ih (s + 1) g (by omega) (by omega) (by omega)
        · rw [decide_eq_false q, Bool.and_false] at so'
          rw [if_neg (fun y => q ((nI_eq (by omega) (by omega)).mp y)), hu.2.1.1]
          exact bad so'
      · rw [decide_eq_false d] at it' so'
        rw [Bool.false_and] at so'
        rw [it', cal_s, if_pos (show bI false = 0 from rfl), hu.2.1.1]
        exact bad so'
end
