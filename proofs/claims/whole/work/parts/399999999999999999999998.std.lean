/-! THE WORLD OF MODULES: what is known of all of them -/
theorem mPs_o {U : Md} {x : Nat} : ∀ (r s : Nat) (D : Nat → Nat), s + r ≤ x → mPs U r s D x = D x
  | 0, _, _, _ => rfl
  | r + 1, s, D, h => by
    show mPs U r (s + 1) (mS1 U D s) x = D x
    rw [mPs_o r (s + 1) _ (by omega)]
    unfold mS1
    rw [if_neg (by omega)]
theorem mTn_o {U : Md} {own x : Nat} (h : own ≤ x) : ∀ (r : Nat) (D : Nat → Nat), mTn U own r D x = D x
  | 0, _ => rfl
  | r + 1, D => by
    show mTn U own r (mPs U own 0 D) x = D x
    rw [mTn_o h r, mPs_o own 0 D (by omega)]
theorem lookA_n {U : Md} : ∀ (r f : Nat), lookA U r f = none → ∀ g, f ≤ g → g < f + r → vrd U g = none
  | 0, f, _, g, h1, h2 => absurd h2 (by omega)
  | r + 1, f, h, g, h1, h2 => by
    unfold lookA at h
    cases e : vrd U f with
    | some q => rw [e] at h; cases h
    | none =>
      rw [e] at h
      by_cases c : g = f
      · subst c; exact e
      · exact lookA_n r (f + 1) h g (by omega) (by omega)
/-- depth, fields of a structure by its identity -/
def dM (ws : Nat → Md) (wc : Nat) (dp : Nat → Nat → Nat) (id : Nat) : Nat := match wfi ws (id / 256) (wc + 1) 0 with
  | some j => if id % 256 < (ws j).1.2.1 then dp j (id % 256) else 1
  | none => 1
def fM (ws : Nat → Md) (wc : Nat) (id : Nat) : List Nat := match wfi ws (id / 256) (wc + 1) 0 with
  | some j => if id % 256 < (ws j).1.2.1 then (fdsOf (ws j) (id % 256)).map (sT (ws j).2.2.2.1) else [0]
  | none => [0]
def dE (ws : Nat → Md) (wc : Nat) (dp : Nat → Nat → Nat) (t : Nat) : Nat := (if t % 2 ^ 32 < 256 then (if t % 2 ^ 32 = 0 then 0 else 1) else dM ws wc dp (t % 2 ^ 32 - 256)) + t / 2 ^ 32
def evW (ws : Nat → Md) (wc : Nat) (dp : Nat → Nat → Nat) (led : Nat → Int64 → Nat → Nat) : Ev := (fM ws wc, dE ws wc dp, (fun u f => resOf (ws u) f), (fun _ id => 48 + id % 256 % 15), led)
/-- module i knows structure s of its own or of the module j before it -/
def HmS (ws : Nat → Md) (i s j : Nat) : Prop := j ≤ i ∧ (ws j).1.1 = (ws i).2.2.2.1 s / 256 ∧ (ws i).2.2.2.1 s % 256 < (ws j).1.2.1 ∧ (ws j).2.1 ((ws i).2.2.2.1 s % 256) = (ws i).2.1 s
def HmF (ws : Nat → Md) (i a j : Nat) : Prop := j < i ∧ (ws j).1.1 = whoOf (ws i) a / 256 ∧ whoOf (ws i) a % 256 < fsOf (ws j) ∧ (fnOf (ws j) (whoOf (ws i) a % 256)).1 / 4 % 2 = (fnOf (ws i) a).1 / 4 % 2 ∧ sameLs (ws i) a (ws j) (whoOf (ws i) a % 256) = true
/-- all modules -/
def SWo (ws : Nat → Md) (wc : Nat) (dp : Nat → Nat → Nat) : Prop := WNo ws wc ∧ dp 0 0 = 2 ∧ wc ≤ 8 ∧ ∀ i, i ≤ wc → SMd (ws i) ∧ (∀ s, s < (ws i).1.2.1 → 1 ≤ dp i s ∧ dp i s ≤ 24) ∧ (∀ s, s < (ws i).1.2.2 → ∃ j, HmS ws i s j) ∧ (∀ s, s < (ws i).1.2.1 → wkOk (ws i) s = true) ∧ (∀ s, s < (ws i).1.2.1 → ∀ t, t ∈ fdsOf (ws i) s → dT (fun x => dM ws wc dp ((ws i).2.2.2.1 x)) t < dp i s) ∧ (1 ≤ i → 0 < (ws i).1.1 ∧ (∀ a, fsOf (ws i) ≤ a → a < faOf (ws i) → ∃ j, HmF ws i a j) ∧ ∀ f, f < fsOf (ws i) → vrd (ws i) f = none)
section
variable {ws : Nat → Md} {wc : Nat} {dp : Nat → Nat → Nat} {led : Nat → Int64 → Nat → Nat}
theorem SWo.hm (h : SWo ws wc dp) {i s : Nat} (hi : i ≤ wc) (hs : s < (ws i).1.2.2) : ∃ j, j ≤ wc ∧ wfi ws ((ws i).2.2.2.1 s / 256) (wc + 1) 0 = some j ∧ (ws i).2.2.2.1 s % 256 < (ws j).1.2.1 ∧ (ws j).2.1 ((ws i).2.2.2.1 s % 256) = (ws i).2.1 s := by
  obtain ⟨j, j1, j2, j3, j4⟩ := (h.2.2.2 i hi).2.2.1 s hs
  refine ⟨j, by omega, ?_, j3, j4⟩
  rw [← j2]
  exact h.1.at (by omega)
theorem SWo.own (h : SWo ws wc dp) {i s : Nat} (hi : i ≤ wc) (hs : s < (ws i).1.2.1) : wfi ws ((ws i).2.2.2.1 s / 256) (wc + 1) 0 = some i ∧ (ws i).2.2.2.1 s % 256 = s := by
  have sm := (h.2.2.2 i hi).1
  have e := sm.2.2.2.2.2.2.2.2.1 s hs
  have l := sm.2.2.2.2.2.1.2.2.2
  rw [e, show (256 * (ws i).1.1 + s) / 256 = (ws i).1.1 by omega, show (256 * (ws i).1.1 + s) % 256 = s by omega]
  exact ⟨h.1.at hi, rfl⟩
theorem SWo.dM1 (h : SWo ws wc dp) (id : Nat) : 1 ≤ dM ws wc dp id := by
  unfold dM
  cases q : wfi ws (id / 256) (wc + 1) 0 with
  | none => exact Nat.le_refl _
  | some j =>
    show 1 ≤ (if id % 256 < (ws j).1.2.1 then dp j (id % 256) else 1)
    by_cases c : id % 256 < (ws j).1.2.1
    · rw [if_pos c]
      have := wfi_s q
      exact ((h.2.2.2 j (by omega)).2.1 _ c).1
    · rw [if_neg c]; exact Nat.le_refl _
theorem SWo.dM24 (h : SWo ws wc dp) (id : Nat) : dM ws wc dp id ≤ 24 := by
  unfold dM
  cases q : wfi ws (id / 256) (wc + 1) 0 with
  | none => show 1 ≤ 24; omega
  | some j =>
    show (if id % 256 < (ws j).1.2.1 then dp j (id % 256) else 1) ≤ 24
    by_cases c : id % 256 < (ws j).1.2.1
    · rw [if_pos c]
      have := wfi_s q
      exact ((h.2.2.2 j (by omega)).2.1 _ c).2
    · rw [if_neg c]; omega
theorem sT_lt {id : Nat → Nat} {ns : Nat} {t : Ty} (h : PT ns t) : ∃ k b, t.length = k + (if b < 256 then 1 else 2) ∧ sT id t = 2 ^ 32 * k + b ∧ ((1 ≤ b ∧ b ≤ 5 ∧ endS t = none) ∨ ∃ s, endS t = some s ∧ s < ns ∧ b = 256 + id s) := by
  obtain ⟨k, ⟨c, e, c1, c2⟩ | ⟨s, e, s1⟩⟩ := h.shape
  · refine ⟨k, c, ?_, ?_, .inl ⟨c1, c2, ?_⟩⟩
    · rw [e, if_pos (by omega)]; simp
    · rw [e, sT_rep (by simp)]; simp [sT]
    · rw [e]; exact endS_n c _ (fun x hx => by have := List.eq_of_mem_replicate hx; omega)
  · refine ⟨k, 256 + id s, ?_, ?_, .inr ⟨s, ?_, s1, rfl⟩⟩
    · rw [e, if_neg (by omega)]; simp
    · rw [e, sT_rep (by simp), sT_s]
    · rw [e]; exact endS_6 s _
/-- the depth of a type of module i -/
theorem SWo.dEt (h : SWo ws wc dp) {i : Nat} (hi : i ≤ wc) {t : Ty} (ht : PT (ws i).1.2.2 t) : dE ws wc dp (sT (ws i).2.2.2.1 t) = dT (fun x => dM ws wc dp ((ws i).2.2.2.1 x)) t := by
  obtain ⟨k, b, l, e, q⟩ := sT_lt (id := (ws i).2.2.2.1) ht
  have sm := (h.2.2.2 i hi).1
  rw [e]
  unfold dE dT
  rcases q with ⟨q1, q2, q3⟩ | ⟨s, q1, q2, q3⟩
  · rw [q3]
    show _ = t.length
    rw [if_pos (show b < 256 by omega)] at l
    rw [show (2 ^ 32 * k + b) % 2 ^ 32 = b by omega, show (2 ^ 32 * k + b) / 2 ^ 32 = k by omega, if_pos (show b < 256 by omega), if_neg (show ¬ b = 0 by omega), l]; omega
  · have il := sm.2.2.2.2.2.2.2.1 s q2
    rw [q1]
    show _ = dM ws wc dp ((ws i).2.2.2.1 s) + (t.length - 2)
    rw [if_neg (show ¬ b < 256 by omega)] at l
    rw [show (2 ^ 32 * k + b) % 2 ^ 32 = b by omega, show (2 ^ 32 * k + b) / 2 ^ 32 = k by omega, if_neg (show ¬ b < 256 by omega), l, q3, show 256 + (ws i).2.2.2.1 s - 256 = (ws i).2.2.2.1 s by omega]; omega
theorem SWo.fMo (h : SWo ws wc dp) {id j : Nat} (hj : wfi ws (id / 256) (wc + 1) 0 = some j) (hs : id % 256 < (ws j).1.2.1) : fM ws wc id = (fdsOf (ws j) (id % 256)).map (sT (ws j).2.2.2.1) ∧ dM ws wc dp id = dp j (id % 256) := by
  unfold fM dM
  rw [hj]
  exact ⟨if_pos hs, if_pos hs⟩
theorem SWo.evOk (h : SWo ws wc dp) : EvOk (evW ws wc dp led) := by
  refine ⟨fun i c hc => ?_, fun t => ?_, ?_⟩
  · have hc' : c ∈ fM ws wc i := hc
    show dE ws wc dp c < dE ws wc dp (256 + i)
    have d0 : dE ws wc dp 0 < dE ws wc dp (256 + i) := by
      have e0 : dE ws wc dp 0 = 0 := rfl
      rw [e0]
      unfold dE
      by_cases c1 : (256 + i) / 2 ^ 32 = 0
      · rw [show (256 + i) % 2 ^ 32 = 256 + i by omega, if_neg (by omega)]
        have := h.dM1 (256 + i - 256)
        omega
      · omega
    unfold fM at hc'
    cases q : wfi ws (i / 256) (wc + 1) 0 with
    | none =>
      rw [q] at hc'
      have : c = 0 := by simpa using hc'
      rw [this]; exact d0
    | some j =>
      rw [q] at hc'
      have hc2 : c ∈ (if i % 256 < (ws j).1.2.1 then (fdsOf (ws j) (i % 256)).map (sT (ws j).2.2.2.1) else [0]) := hc'
      by_cases cs : i % 256 < (ws j).1.2.1
      · rw [if_pos cs] at hc2
        obtain ⟨t, t1, t2⟩ := List.mem_map.mp hc2
        have wj := wfi_s q
        obtain ⟨sm, _, _, _, dpt, _⟩ := h.2.2.2 j (by omega)
        have pt := (sm.2.1 _ cs).2 t t1
        have n1 := sm.2.2.2.2.2.2.1
        rw [← t2, h.dEt (by omega) pt]
        have e : dE ws wc dp (256 + i) = dp j (i % 256) := by
          unfold dE
          have il : i < 2 ^ 24 := by omega
          rw [show (256 + i) % 2 ^ 32 = 256 + i by omega, show (256 + i) / 2 ^ 32 = 0 by omega, if_neg (by omega), show 256 + i - 256 = i by omega, (h.fMo q cs).2]; omega
        rw [e]
        exact dpt _ cs t t1
      · rw [if_neg cs] at hc2
        have : c = 0 := by simpa using hc2
        rw [this]; exact d0
  · show dE ws wc dp t < dE ws wc dp (t + 2 ^ 32)
    unfold dE
    rw [show (t + 2 ^ 32) % 2 ^ 32 = t % 2 ^ 32 by omega, show (t + 2 ^ 32) / 2 ^ 32 = t / 2 ^ 32 + 1 by omega]; omega
  · show dE ws wc dp 11 < dE ws wc dp 256
    have e1 : dE ws wc dp 11 = 1 := rfl
    have e2 : dE ws wc dp 256 = dM ws wc dp 0 + 0 := rfl
    have u0 := h.1.1
    have z := h.1.zero
    have own : (ws 0).1.2.1 = 1 := by rw [u0]; rfl
    have e3 : dM ws wc dp 0 = dp 0 (0 % 256) := (h.fMo (id := 0) (j := 0) z (by rw [own]; decide)).2
    have e4 : dp 0 (0 % 256) = 2 := h.2.1
    omega
theorem SWo.evA (h : SWo ws wc dp) : EvA (evW ws wc dp led) := fun i hc => by
  have hc' : 11 ∈ fM ws wc i := hc
  unfold fM at hc'
  cases q : wfi ws (i / 256) (wc + 1) 0 with
  | none => rw [q] at hc'; simp at hc'
  | some j =>
    rw [q] at hc'
    have hc2 : 11 ∈ (if i % 256 < (ws j).1.2.1 then (fdsOf (ws j) (i % 256)).map (sT (ws j).2.2.2.1) else [0]) := hc'
    by_cases cs : i % 256 < (ws j).1.2.1
    · rw [if_pos cs] at hc2
      obtain ⟨t, t1, t2⟩ := List.mem_map.mp hc2
      have wj := wfi_s q
      exact sT_n11 (((h.2.2.2 j (by omega)).1.2.1 _ cs).2 t t1) t2
    · rw [if_neg cs] at hc2; simp at hc2
theorem SWo.evC (h : SWo ws wc dp) : (evW ws wc dp led).2.1 256 ≤ 38 ∧ (evW ws wc dp led).2.1 11 ≤ 38 := by
  have e2 : dE ws wc dp 256 = dM ws wc dp 0 + 0 := rfl
  have e1 : dE ws wc dp 11 = 1 := rfl
  have := h.dM24 0
  exact ⟨by show dE ws wc dp 256 ≤ 38; omega, by show dE ws wc dp 11 ≤ 38; omega⟩
theorem bit0_and {a n : Nat} (h : a &&& n = n) (hn : n % 2 = 1) : a % 2 = 1 := by
  have e : (a &&& n).testBit 0 = n.testBit 0 := by rw [h]
  rw [Nat.testBit_and] at e
  simp only [Nat.testBit_zero] at e
  rw [hn] at e
  simpa using e
theorem abT_v {U : Md} {ns : Nat} {e : Ty} (he : PT ns e) : abT U (7 :: e) % 2 = abT U e % 2 := by
  obtain ⟨k, ⟨c, q, c1, c2⟩ | ⟨s, q, s1⟩⟩ := he.shape
  · have e1 : endS e = none := by rw [q]; exact endS_n c _ (fun x hx => by have := List.eq_of_mem_replicate hx; omega)
    have e2 : endS (7 :: e) = none := by
      have := endS_n c (7 :: List.replicate k 7) (fun x hx => by
        rcases List.mem_cons.mp hx with w | w
        · omega
        · have := List.eq_of_mem_replicate w; omega)
      rw [q]; exact this
    unfold abT
    rw [e1, e2, he.hd.2, (PT_v he).hd.2]
  · have e1 : endS e = some s := by rw [q]; exact endS_6 s _
    have e2 : endS (7 :: e) = some s := by rw [q]; exact endS_6 s (7 :: List.replicate k 7)
    unfold abT
    rw [e1, e2, he.hd.2, (PT_v he).hd.2]
    show (if hdT (7 :: e) = 7 then U.2.1 s % 8 else U.2.1 s) % 2 = (if hdT e = 7 then U.2.1 s % 8 else U.2.1 s) % 2
    rw [if_pos (show hdT (7 :: e) = 7 from rfl)]
    split <;> omega
/-- what may be copied holds no coin -/
theorem SWo.nc (h : SWo ws wc dp) {i : Nat} (hi : i ≤ wc) {t : Ty} (ht : PT (ws i).1.2.2 t) (hc : hasC (ws i) t = true) : NCl (evW ws wc dp led) (sT (ws i).2.2.2.1 t) := by
  refine ⟨fun u => ∃ i t, i ≤ wc ∧ PT (ws i).1.2.2 t ∧ abT (ws i) t % 2 = 1 ∧ u = sT (ws i).2.2.2.1 t, ⟨i, t, hi, ht, by unfold hasC at hc; simpa using hc, rfl⟩, fun u hu => ?_⟩
  obtain ⟨i, t, hi, ht, hc, e⟩ := hu
  obtain ⟨k, b, l, e2, q⟩ := sT_lt (id := (ws i).2.2.2.1) ht
  have sm := (h.2.2.2 i hi).1
  refine ⟨by rw [e]; exact sT_n11 ht, fun w => ?_, fun w1 w2 c hcc => ?_, fun w => ?_⟩
  · -- COIN itself
    rw [e, e2] at w
    rcases q with ⟨q1, q2, q3⟩ | ⟨s, q1, q2, q3⟩
    · omega
    · have k0 : k = 0 := by omega
      have id0 : (ws i).2.2.2.1 s = 0 := by omega
      obtain ⟨j, j1, j2, j3, j4⟩ := h.hm hi q2
      rw [id0] at j2 j3 j4
      have z := h.1.zero
      rw [show 0 / 256 = 0 from rfl, z] at j2
      cases j2
      have a4 : (ws 0).2.1 (0 % 256) = 4 := by rw [h.1.1]; rfl
      have ab : abT (ws i) t = (if hdT t = 7 then (ws i).2.1 s % 8 else (ws i).2.1 s) := by unfold abT; rw [ht.hd.2, q1]; rfl
      rw [ab, ← j4, a4] at hc
      split at hc <;> omega
  · -- a structure's fields
    have hcc' : c ∈ fM ws wc (u - 256) := hcc
    rcases q with ⟨q1, q2, q3⟩ | ⟨s, q1, q2, q3⟩
    · rw [e, e2] at w1 w2
      have : k = 0 := by omega
      omega
    · have k0 : k = 0 := by rw [e, e2] at w2; omega
      have eu : u - 256 = (ws i).2.2.2.1 s := by rw [e, e2, k0, q3]; omega
      rw [eu] at hcc'
      obtain ⟨j, j1, j2, j3, j4⟩ := h.hm hi q2
      rw [(h.fMo (dp := dp) j2 j3).1] at hcc'
      obtain ⟨t', t1, t2⟩ := List.mem_map.mp hcc'
      obtain ⟨smj, _, _, wk, _⟩ := h.2.2.2 j j1
      have pt := (smj.2.1 _ j3).2 t' t1
      refine ⟨j, t', j1, pt, ?_, t2.symm⟩
      have ab : abT (ws i) t = (if hdT t = 7 then (ws i).2.1 s % 8 else (ws i).2.1 s) := by unfold abT; rw [ht.hd.2, q1]; rfl
      have o1 : (ws i).2.1 s % 2 = 1 := by rw [ab] at hc; split at hc <;> omega
      have wkk := wk _ j3
      unfold wkOk at wkk
      obtain ⟨x, x1, x2⟩ := List.getElem_of_mem t1
      have := of_decide_eq_true ((fbad_n _ _ _).mp wkk x (Nat.zero_le _) (by omega))
      rw [show (fdsOf (ws j) ((ws i).2.2.2.1 s % 256)).getD x [] = t' by rw [List.getD_eq_getElem?_getD, List.getElem?_eq_getElem x1]; exact x2, j4] at this
      refine bit0_and this ?_
      unfold needN
      by_cases c8 : (ws i).2.1 s / 8 % 2 = 1
      · rw [if_pos c8]
        have : ((ws i).2.1 s % 8 ||| 4) % 2 = ((ws i).2.1 s % 8) % 2 := by
          have e : ((ws i).2.1 s % 8 ||| 4).testBit 0 = ((ws i).2.1 s % 8).testBit 0 := by rw [Nat.testBit_or]; simp
          simp only [Nat.testBit_zero] at e
          rcases Nat.mod_two_eq_zero_or_one ((ws i).2.1 s % 8 ||| 4) with w | w <;> rcases Nat.mod_two_eq_zero_or_one ((ws i).2.1 s % 8) with v | v <;> rw [w, v] at e <;> simp at e <;> omega
        omega
      · rw [if_neg c8]; omega
  · -- a vector's elements
    have ne : t ≠ [] := ht.ne
    rw [e, e2] at w
    have k1 : 1 ≤ k := by
      rcases q with ⟨q1, q2, q3⟩ | ⟨s, q1, q2, q3⟩
      · omega
      · have := sm.2.2.2.2.2.2.2.1 s q2; omega
    match t, ht with
    | [x], hx =>
      have : [x].length = 1 := rfl
      split at l <;> omega
    | x :: y :: t', hx =>
      rcases hx with ⟨a1, a2, a3⟩ | ⟨a1, a2⟩
      · subst a3
        have : [x, y].length = 2 := rfl
        rcases q with ⟨q1, q2, q3⟩ | ⟨s, q1, q2, q3⟩
        · subst a1
          have : endS [6, y] = some y := rfl
          rw [this] at q3; cases q3
        · rw [if_neg (by omega)] at l; omega
      · subst a1
        refine ⟨i, y :: t', hi, a2, ?_, ?_⟩
        · rw [← abT_v a2]; exact hc
        · rw [e, sT_v a2]; omega
end
