/-! BOTH MACHINES SIDE BY SIDE: bits, shifts, truths, comparing, conversions -/
theorem N_and (x y : Int64) : N (x &&& y) = N x &&& N y := by unfold N; rw [Int64.toBitVec_and, BitVec.toNat_and]
theorem N_xor (x y : Int64) : N (x ^^^ y) = N x ^^^ N y := by unfold N; rw [Int64.toBitVec_xor, BitVec.toNat_xor]
def bitX (o : Nat) (x y : Int64) : Int64 := if o = 29 then x &&& y else if o = 30 then x ||| y else x ^^^ y
theorem bitX_lt {o : Nat} {x y : Int64} {b : Nat} (hx : N x < 2 ^ b) (hy : N y < 2 ^ b) : N (bitX o x y) < 2 ^ b := by
  unfold bitX
  by_cases c : o = 29
  · rw [if_pos c, N_and]; exact Nat.and_lt_two_pow _ hy
  · rw [if_neg c]
    by_cases d : o = 30
    · rw [if_pos d, N_or]; exact Nat.or_lt_two_pow hx hy
    · rw [if_neg d, N_xor]; exact Nat.xor_lt_two_pow hx hy
theorem bitX_0 {o : Nat} : bitX o 0 0 = 0 := by
  unfold bitX
  by_cases c : o = 29
  · rw [if_pos c]; rfl
  · rw [if_neg c]
    by_cases d : o = 30
    · rw [if_pos d]; rfl
    · rw [if_neg d]; rfl
theorem bitX_1 {o : Nat} {x y : Int64} (hx : x = 0 ∨ x = 1) (hy : y = 0 ∨ y = 1) : bitX o x y = 0 ∨ bitX o x y = 1 := by
  have nx : N x < 2 ^ 1 := by rcases hx with e | e <;> subst e <;> decide
  have ny : N y < 2 ^ 1 := by rcases hy with e | e <;> subst e <;> decide
  have := bitX_lt (o := o) nx ny
  have : N (bitX o x y) = 0 ∨ N (bitX o x y) = 1 := by omega
  rcases this with q | q
  · exact .inl (N_inj (by rw [q]; rfl))
  · exact .inr (N_inj (by rw [q]; rfl))
theorem LTm_bits {E : Ev} {o k : Nat} {a b : Nd} {as bs : List Nat} (hk : 1 ≤ k ∧ k ≤ 4) (ha : LTm E k a as) (hb : LTm E k b bs) : LTm E k (k, bitX o a.2.1 b.2.1, bitX o a.2.2.1 b.2.2.1, []) [] ∧ (k ≠ 1 → V2 (bitX o a.2.1 b.2.1) (bitX o a.2.2.1 b.2.2.1) < 2 ^ bt k) := by
  by_cases c : k = 1
  · subst c
    obtain ⟨_, a1, a2⟩ := ha.tr
    obtain ⟨_, b1, b2⟩ := hb.tr
    refine ⟨?_, fun q => absurd rfl q⟩
    rw [a1, b1, bitX_0]
    exact LTm_tr (bitX_1 a2 b2)
  · have hk' : k = 2 ∨ k = 3 ∨ k = 4 := by omega
    have key : V2 (bitX o a.2.1 b.2.1) (bitX o a.2.2.1 b.2.2.1) < 2 ^ bt k := by
      have va := ha.v2 hk'
      have vb := hb.v2 hk'
      rcases hk' with e | e | e <;> subst e
      · obtain ⟨a1, a2⟩ := V2_8.mp va
        obtain ⟨b1, b2⟩ := V2_8.mp vb
        refine V2_8.mpr ⟨by rw [a1, b1]; exact bitX_0, bitX_lt a2 b2⟩
      · have a1 := V2_64.mp va
        have b1 := V2_64.mp vb
        exact V2_64.mpr (by rw [a1, b1]; exact bitX_0)
      · exact V2_lt _ _
    exact ⟨LTm_num hk' key, fun _ => key⟩
section
variable {E : Ev} {F n : Nat} {sh : Nat → Nat × Nat} {pk : Nat → Nat} {kt : Nat} {sl0 : Int32} {lim e : Nat} {zr zc zr' zc' : St} {H : Hp} {m : Nat} {ty : Nat → Nat} {fr : Nat → Fm} {nf na : Nat} {ak : Nat → Ask} {g g' : Nat} {Hc : Hp} {mc : Nat} {phi : Nat → Nat} {Rn : Nat → Option Nat} {cs cl : Nat → Nat → Nat} {cn : Nat → Nat} {ws : Nat → Int64 → Nat → Bool} {u : Nat} {U : Md} {ls : List Ty} {L L' : Lks} {R C : Option (St × Unit)}
/-- a number on top of the stack, by its type -/
theorem Sm.top (h : Sm E sh n pk kt sl0 lim e zr zc H m ty fr nf na ak g Hc mc phi Rn cs cl cn ws) (fm : FM U ls (fr (nf - 1)) L) {i k : Nat} (hi : 1 ≤ i) (hi2 : i ≤ L.1.1) (h1 : 1 ≤ k) (h5 : k ≤ 5) (t : (L.1.2 (L.1.1 - i)).1 = [k]) : ((fr (nf - 1)).2.2.1.2 ((fr (nf - 1)).2.2.1.1 - i)).2.1 = 0 ∧ cs (nf - 1) ((fr (nf - 1)).2.2.1.1 - i) = phi ((fr (nf - 1)).2.2.1.2 ((fr (nf - 1)).2.2.1.1 - i)).1 ∧ (H ((fr (nf - 1)).2.2.1.2 ((fr (nf - 1)).2.2.1.1 - i)).1).1 = k ∧ (Hc (phi ((fr (nf - 1)).2.2.1.2 ((fr (nf - 1)).2.2.1.1 - i)).1)).1 = k ∧ (Hc (phi ((fr (nf - 1)).2.2.1.2 ((fr (nf - 1)).2.2.1.1 - i)).1)).2.1 = (H ((fr (nf - 1)).2.2.1.2 ((fr (nf - 1)).2.2.1.1 - i)).1).2.1 ∧ (Hc (phi ((fr (nf - 1)).2.2.1.2 ((fr (nf - 1)).2.2.1.1 - i)).1)).2.2.1 = (H ((fr (nf - 1)).2.2.1.2 ((fr (nf - 1)).2.2.1.1 - i)).1).2.2.1 ∧ LTm E k (H ((fr (nf - 1)).2.2.1.2 ((fr (nf - 1)).2.2.1.1 - i)).1) ((kds H ((fr (nf - 1)).2.2.1.2 ((fr (nf - 1)).2.2.1.1 - i)).1).map ty) := by
  have hh := fm.1
  have p : PT U.1.2.2 [k] := ⟨h1, h5⟩
  obtain ⟨b0, b1, b2, b3, b4⟩ := h.pl (k := (fr (nf - 1)).2.2.1.1 - i) (by omega) (by rw [hh]; exact (fm.2.2.1 _ (by omega)).1) (by rw [t]; exact p)
  rw [t] at b3
  obtain ⟨p1, p2, p3, p4, p5⟩ := h.prim b2 b3 (by show 1 ≤ k; omega) (by show k ≤ 5; omega)
  exact ⟨b0, b1, p1, p2, p3, p4, p5⟩
theorem sim_bits (h : Sm E sh n pk kt sl0 lim 1 zr zc H m ty fr nf na ak g Hc mc phi Rn cs cl cn ws) (hE : EvOk E) (hU : UOk E u U) (fm : FM U ls (fr (nf - 1)) L) {o k : Nat} (ho : o = 29 ∨ o = 30 ∨ o = 31) (hk : 1 ≤ k ∧ k ≤ 4) (h2 : 2 ≤ L.1.1) (t1 : (L.1.2 (L.1.1 - 1)).1 = [k]) (t2 : (L.1.2 (L.1.1 - 2)).1 = [k]) (hp : lPush ([k], 0, false) ((L.1.1 - 2, L.1.2), L.2) = .ok L') : Out E sh n pk kt sl0 lim zr zc fr nf na ak g ws U ls L' (fun i => i = (fr (nf - 1)).1.2.2) (fn_X18_reckon F sh n zr 337 (nI o)) (fn_X4_reckon F sh n zc 87 (nI o)) := by
  obtain ⟨r1, r2⟩ := h.rooms
  obtain ⟨b0, b1, pb1, pb2, pb3, pb4, pb5⟩ := h.top fm (i := 1) (by omega) (by omega) hk.1 (by omega) t1
  obtain ⟨a0, a1, pa1, pa2, pa3, pa4, pa5⟩ := h.top fm (i := 2) (by omega) (by omega) hk.1 (by omega) t2
  have hh := fm.1
  have lt := LTm_bits (o := o) hk pa5 pb5
  obtain ⟨z1, q1, q2, q3⟩ := h.2.1.bits (F := F) (by omega) h.h64 b0 a0 rfl rfl (by rw [pa1]; omega) (by rw [pa1, pb1]) ho (by omega) (t := k)
  rw [pa1] at q2
  have kbe : k ≠ 1 → kb (nI k) = bt k := fun q => (kb_nz (by omega)).1
  obtain ⟨z2, c1, c2, c3⟩ := h.2.2.1.bits (F := F) (by omega) a1 b1 (by rw [pa2]; omega) (by rw [pa2]; omega) (by rw [pa2, pb2]) ho (by omega) (m, 0, k, 0, false) rfl rfl (by rw [pa2, pa3, pa4, pb3, pb4]; exact fun q => by rw [kbe q]; exact lt.2 q)
  rw [pa2, pa3, pa4, pb3, pb4] at c2
  exact Out.num h hE hU fm (c := 2) h2 hk.1 (by omega) lt.1 hp (Nat.le_refl _) q1 c1 q2 c2 q3 c3
/-- 32, 33 -/
theorem sim_shift (hF : 300 ≤ F) (h : Sm E sh n pk kt sl0 lim 1 zr zc H m ty fr nf na ak g Hc mc phi Rn cs cl cn ws) (hE : EvOk E) (hU : UOk E u U) (fm : FM U ls (fr (nf - 1)) L) {k : Nat} (up : Bool) (hk : k = 2 ∨ k = 3 ∨ k = 4) (h2 : 2 ≤ L.1.1) (t1 : (L.1.2 (L.1.1 - 1)).1 = [2]) (t2 : (L.1.2 (L.1.1 - 2)).1 = [k]) (hp : lPush ([k], 0, false) ((L.1.1 - 2, L.1.2), L.2) = .ok L') : Out E sh n pk kt sl0 lim zr zc fr nf na ak g ws U ls L' (fun i => i = (fr (nf - 1)).1.2.2) (fn_X18_shift F sh n zr 337 (bI up)) (fn_X4_reckon F sh n zc 87 (nI (if up then 32 else 33))) := by
  have k1 : 1 ≤ k := by omega
  have k5 : k ≤ 5 := by omega
  obtain ⟨r1, r2⟩ := h.rooms
  obtain ⟨b0, b1, pb1, pb2, pb3, pb4, pb5⟩ := h.top fm (i := 1) (by omega) (by omega) (by omega) (by omega) t1
  obtain ⟨a0, a1, pa1, pa2, pa3, pa4, pa5⟩ := h.top fm (i := 2) (by omega) (by omega) (by omega) (by omega) t2
  have hh := fm.1
  obtain ⟨_, vb⟩ := V2_8.mp (pb5.v2 (.inl rfl))
  have hk2 := (lN_N (H ((fr (nf - 1)).2.2.1.2 ((fr (nf - 1)).2.2.1.1 - 1)).1).2.2.1).symm
  have va := pa5.v2 hk
  have RS := h.2.1.shift (F := F) hF (by omega) h.h64 b0 a0 rfl rfl (by rw [pa1]; omega) pb1 hk2 vb (by omega) up (t := k)
  have CS := h.2.2.1.shift (F := F) hF (by omega) up a1 b1 (by rw [pa2]; exact hk) pb2 (by rw [pb4]; exact hk2) vb (by rw [pa2, pa3, pa4]; exact va) (by omega) (m, 0, k, 0, false)
  rw [pa1] at RS
  rw [pa2, pa3, pa4] at CS
  by_cases c : N (H ((fr (nf - 1)).2.2.1.2 ((fr (nf - 1)).2.2.1.1 - 1)).1).2.2.1 < bt k
  · obtain ⟨z1, x, y, q1, q2, q3, q4⟩ := RS.2 c
    obtain ⟨z2, c1, c2, c3⟩ := CS.2 c x y q1
    exact Out.num h hE hU fm (c := 2) h2 k1 k5 (LTm_num hk (by rw [q1]; exact Nat.mod_lt _ (Nat.pow_pos (by omega)))) hp (Nat.le_refl _) q2 c1 q3 c2 q4 c3
  · obtain ⟨z1, q1, q2, q3⟩ := RS.1 (by omega)
    obtain ⟨z2, c1, c2, c3⟩ := CS.1 (by omega)
    exact Out.end 2 1 g (.inr rfl) q1 c1 q2 c2 q3 c3.x
/-- 38 .. 41 -/
theorem sim_order (h : Sm E sh n pk kt sl0 lim 1 zr zc H m ty fr nf na ak g Hc mc phi Rn cs cl cn ws) (hE : EvOk E) (hU : UOk E u U) (fm : FM U ls (fr (nf - 1)) L) {o k : Nat} (ho : 38 ≤ o) (ho2 : o ≤ 41) (hk : k = 2 ∨ k = 3 ∨ k = 4) (h2 : 2 ≤ L.1.1) (t1 : (L.1.2 (L.1.1 - 1)).1 = [k]) (t2 : (L.1.2 (L.1.1 - 2)).1 = [k]) (hp : lPush ([1], 0, false) ((L.1.1 - 2, L.1.2), L.2) = .ok L') : Out E sh n pk kt sl0 lim zr zc fr nf na ak g ws U ls L' (fun i => i = (fr (nf - 1)).1.2.2) (fn_X18_reckon F sh n zr 337 (nI o)) (fn_X4_reckon F sh n zc 87 (nI o)) := by
  obtain ⟨r1, r2⟩ := h.rooms
  obtain ⟨b0, b1, pb1, pb2, pb3, pb4, pb5⟩ := h.top fm (i := 1) (by omega) (by omega) (by omega) (by omega) t1
  obtain ⟨a0, a1, pa1, pa2, pa3, pa4, pa5⟩ := h.top fm (i := 2) (by omega) (by omega) (by omega) (by omega) t2
  have hh := fm.1
  obtain ⟨z1, q1, q2, q3⟩ := h.2.1.order (F := F) (by omega) h.h64 b0 a0 rfl rfl (by rw [pa1]; omega) (by rw [pa1, pb1]) ho ho2 (by omega)
  obtain ⟨z2, c1, c2, c3⟩ := h.2.2.1.order (F := F) (by omega) a1 b1 (by rw [pa2]; omega) (by rw [pa2]; omega) (by rw [pa2, pb2]) ho ho2 (by omega) (m, 0, 1, 0, false)
  rw [pa3, pa4, pb3, pb4] at c2
  exact Out.num h hE hU fm (c := 2) h2 (by omega) (by omega) (LTm_tr (by split <;> simp)) hp (Nat.le_refl _) q1 c1 q2 c2 q3 c3
/-- 42 .. 44 -/
theorem sim_conv (h : Sm E sh n pk kt sl0 lim 1 zr zc H m ty fr nf na ak g Hc mc phi Rn cs cl cn ws) (hE : EvOk E) (hU : UOk E u U) (fm : FM U ls (fr (nf - 1)) L) {k j : Nat} (hk : k = 2 ∨ k = 3 ∨ k = 4) (hj : j = 2 ∨ j = 3 ∨ j = 4) (h1 : 1 ≤ L.1.1) (t1 : (L.1.2 (L.1.1 - 1)).1 = [j]) (hp : lPush ([k], 0, false) ((L.1.1 - 1, L.1.2), L.2) = .ok L') : Out E sh n pk kt sl0 lim zr zc fr nf na ak g ws U ls L' (fun i => i = (fr (nf - 1)).1.2.2) (fn_X18_convert F sh n zr 337 (nI k)) (fn_X4_reckon F sh n zc 87 (nI (40 + k))) := by
  obtain ⟨r1, r2⟩ := h.rooms
  obtain ⟨b0, b1, pb1, pb2, pb3, pb4, pb5⟩ := h.top fm (i := 1) (by omega) (by omega) (by omega) (by omega) t1
  have hh := fm.1
  have kbe := (kb_nz hk).2
  have io : ∀ z, fn_X17_isOf F sh n z (H ((fr (nf - 1)).2.2.1.2 ((fr (nf - 1)).2.2.1.1 - 1)).1).2.1 (H ((fr (nf - 1)).2.2.1.2 ((fr (nf - 1)).2.2.1.1 - 1)).1).2.2.1 (nI (if k = 2 then 8 else if k = 4 then 128 else 64)) = some (z, bI (decide (V2 (H ((fr (nf - 1)).2.2.1.2 ((fr (nf - 1)).2.2.1.1 - 1)).1).2.1 (H ((fr (nf - 1)).2.2.1.2 ((fr (nf - 1)).2.2.1.1 - 1)).1).2.2.1 < 2 ^ bt k))) := fun z => by
    rw [isOf_t, kbe]
    by_cases c : V2 (H ((fr (nf - 1)).2.2.1.2 ((fr (nf - 1)).2.2.1.1 - 1)).1).2.1 (H ((fr (nf - 1)).2.2.1.2 ((fr (nf - 1)).2.2.1.1 - 1)).1).2.2.1 < 2 ^ bt k
    · rw [if_pos c]; simp [c, bI]
    · rw [if_neg c]; simp [c, bI]
  have RC := h.2.1.conv (F := F) (by omega) h.h64 b0 (by rw [pb1]; omega) hk (by omega) io
  have CC := h.2.2.1.conv (F := F) (by omega) b1 (by rw [pb2]; omega) (by rw [pb2]; omega) hk (by omega) (m, 0, k, 0, false)
  rw [pb3, pb4] at CC
  by_cases c : V2 (H ((fr (nf - 1)).2.2.1.2 ((fr (nf - 1)).2.2.1.1 - 1)).1).2.1 (H ((fr (nf - 1)).2.2.1.2 ((fr (nf - 1)).2.2.1.1 - 1)).1).2.2.1 < 2 ^ bt k
  · obtain ⟨z1, q1, q2, q3⟩ := RC.1 (by simp [c])
    obtain ⟨z2, c1, c2, c3⟩ := CC.1 c
    exact Out.num h hE hU fm (c := 1) h1 (by omega) (by omega) (LTm_num hk c) hp (Nat.le_refl _) q1 c1 q2 c2 q3 c3
  · obtain ⟨z1, q1, q2, q3⟩ := RC.2 (by simp [c])
    obtain ⟨z2, c1, c2, c3⟩ := CC.2 c
    exact Out.end 2 1 g (.inr rfl) q1 c1 q2 c2 q3 c3.x
end
