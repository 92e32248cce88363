/-! THE REFERENCE'S LOOKER: one instruction -/
def aStep (U : Md) (f : Nat) (tg : Nat → Bool) (i o a b : Nat) (S : Nat × (Nat → SS)) (R : Nat → Option Lc) : Px ((Nat × (Nat → SS)) × (Nat → Option Lc)) :=
  match R i with
  | none => .error 10
  | some Q => nd_ (!tg i || S.1 == 0) 8 >>= fun _ => aOp U f o a b (S, Q) >>= fun L => (if 2 ≤ o ∧ o < 5 then aCome U (locOf U f) i a L.2 R else .ok R) >>= fun R => if o = 1 ∨ o = 2 ∨ o = 45 then .ok ((0, L.1.2), R) else nd_ (decide (i + 1 < (codeOf U f).length)) 11 >>= fun _ => aCome U (locOf U f) i (i + 1) L.2 R >>= fun R => .ok (L.1, R)
def UnI (F : Nat) (sh : Nat → Nat × Nat) (n : Nat) (z : St) (ku : Nat) (U : Md) (f : Nat) : Prop := fn_X16_instructions F sh n z ku (nI f) = some (z, nI (codeOf U f).length) ∧ ∀ i o x y, (codeOf U f)[i]? = some (o, x, y) → fn_X16_operation F sh n z ku (nI f) (nI i) = some (z, nI o) ∧ fn_X16_operand F sh n z ku (nI f) (nI i) 0 = some (z, x) ∧ fn_X16_operand F sh n z ku (nI f) (nI i) 1 = some (z, y)
def CdO (U : Md) (f : Nat) : Prop := (codeOf U f).length ≤ 1024 ∧ ∀ (i o : Nat) (x y : Int64), (codeOf U f)[i]? = some (o, x, y) → InOk U f o x.toInt.toNat y.toInt.toNat ∧ (namesA o ∨ (2 ≤ o ∧ o < 5) → x.toInt32 = nI x.toInt.toNat) ∧ (o = 16 ∨ o = 17 ∨ 52 ≤ o → y.toInt32 = nI y.toInt.toNat ∧ y.toInt.toNat < 256) ∧ (2 ≤ o → o < 5 → x.toInt.toNat < (codeOf U f).length)
def LkR (sh : Nat → Nat × Nat) (n : Nat) (z : St) (ku f : Nat) (ls : List Ty) (ns : Nat) : Px ((Nat × (Nat → SS)) × (Nat → Option Lc)) → Prop
  | .ok q => (∃ C, RK sh n z ku f ls ns 0 (q.1, C)) ∧ RcS z ls.length q.2
  | .error w => 0 < w ∧ ∃ M, RK sh n z ku f ls ns w M
theorem RcS.of {z z' : St} {nl : Nat} {R : Nat → Option Lc} (h : RcS z nl R) (e : ∀ k, k = 357 ∨ (359 ≤ k ∧ k ≤ 361) → z'.1 k = z.1 k ∧ z'.2.1 k = z.2.1 k) : RcS z' nl R := by
  have r : ∀ {j b o i}, rcA z j b o i → rcA z' j b o i := fun {j b o i} q => ⟨by rw [(e 359 (by omega)).1]; exact q.1, by rw [(e 360 (by omega)).2]; exact q.2.1, by rw [(e 361 (by omega)).1]; exact q.2.2⟩
  exact fun t' ht' => ⟨by rw [(e 357 (by omega)).1]; exact (h t' ht').1, fun Q q k hk => r ((h t' ht').2 Q q k hk)⟩
theorem RcS.lk {z z' : St} {nl : Nat} {R : Nat → Option Lc} (h : RcS z nl R) (f : FrLk z z') : RcS z' nl R := h.of (fun k hk => f.2.1 k (by omega) (by omega))
section
variable {F n : Nat} {sh : Nat → Nat × Nat} {z z' : St} {ku f w ns : Nat} {ls : List Ty} {L M : Lks} {U : Md} {R : Nat → Option Lc} {S : Nat × (Nat → SS)}
theorem RK.ext {C Q : Lc} (h : RK sh n z ku f ls ns w (S, C)) (e : ∀ k, k < ls.length → C.1 k = Q.1 k ∧ C.2.1 k = Q.2.1 k ∧ C.2.2 k = Q.2.2 k) : RK sh n z ku f ls ns w (S, Q) := by
  obtain ⟨a1, a, b, c1, d1, d2⟩ := h
  refine ⟨a1, a, b, fun k hk => ?_, d1, d2⟩
  obtain ⟨e1, e2, e3⟩ := e k hk
  obtain ⟨g1, g2, g3⟩ := c1 k hk
  exact ⟨by rw [← e1]; exact g1, by rw [← e2]; exact g2, by rw [← e3]; exact g3⟩
theorem RK.z0 (h : RK sh n z ku f ls ns w L) : RK sh n (si z 355 14 0) ku f ls ns w ((0, L.1.2), L.2) ∧ FrLk z (si z 355 14 0) := by
  obtain ⟨a1, ⟨a2, a3, a4, a5, a6⟩, ⟨b1, b2, b3, b4⟩, c1, d1, d2⟩ := h
  exact ⟨⟨a1.of rfl, ⟨a2, by rw [si_oj (by omega)]; exact a3, by rw [si_oj (by omega)]; exact a4, a5, a6⟩, ⟨si_ss, by show 0 ≤ 65; omega, fun _ => by show 0 ≤ 64; omega, fun k hk => absurd (show k < 0 from hk) (by omega)⟩, fun k hk => by rw [si_ok (by omega), si_ok (by omega)]; exact c1 k hk, by rw [si_oj (by omega)]; exact d1, d2⟩, FrLk.si (.inl ⟨rfl, by omega⟩)⟩
theorem RK.b178e (h : RK sh n z ku f ls ns w L) (hw : 0 < w) (o x : Int32) : ∃ z' M, fn_X13_look_B178 F sh n o 355 x z = some (z', ()) ∧ RK sh n z' ku f ls ns w M ∧ FrL2 z z' := by
  obtain ⟨k0, f0⟩ := h.z0
  have e1 : ∀ b, fn_X13_look_B216 F sh n 355 x z (bI b) = some (z, ()) := fun b => by
    unfold fn_X13_look_B216
    rw [h.need_e hw, cal_s, h.come_e hw, cal_s]
  unfold fn_X13_look_B178
  by_cases c1 : o = 1
  · rw [if_pos c1]; exact ⟨_, _, rfl, k0, f0.l2⟩
  rw [if_neg c1]
  by_cases c2 : o = 2
  · rw [if_pos c2]; exact ⟨_, _, rfl, k0, f0.l2⟩
  rw [if_neg c2]
  by_cases c3 : o = 45
  · rw [if_pos c3]; exact ⟨_, _, rfl, k0, f0.l2⟩
  rw [if_neg c3]
  by_cases c4 : z.1 355 4 ≤ x + 1
  · rw [if_pos c4]; exact ⟨_, _, e1 false, h, FrL2.rfl'⟩
  · rw [if_neg c4]; exact ⟨_, _, e1 true, h, FrL2.rfl'⟩
theorem RK.b178 (hF : 300 ≤ F) (h : RK sh n z ku f ls U.1.2.2 0 L) (P : RcS z ls.length R) (hu : ∀ z', FrL2 z z' → UnL F sh n z' ku U) (hm : MdO U) {len : Nat} (h4 : z.1 355 4 = nI len) (hlen : len ≤ 1024) {i o : Nat} (hi : i < len) (ho : o < 100) : ∃ z', fn_X13_look_B178 F sh n (nI o) 355 (nI i) z = some (z', ()) ∧ LkR sh n z' ku f ls U.1.2.2 (if o = 1 ∨ o = 2 ∨ o = 45 then .ok ((0, L.1.2), R) else nd_ (decide (i + 1 < len)) 11 >>= fun _ => aCome U ls i (i + 1) L.2 R >>= fun R => .ok (L.1, R)) ∧ FrL2 z z' := by
  obtain ⟨k0, f0⟩ := h.z0
  have E : ∀ (m : Nat) (x : Int32), x = nI m → m < 100 → (nI o = x ↔ o = m) := fun m x e hm => nIe m e (by omega) (by omega)
  have fin : LkR sh n (si z 355 14 0) ku f ls U.1.2.2 (.ok ((0, L.1.2), R)) := ⟨⟨_, k0⟩, P.lk f0⟩
  unfold fn_X13_look_B178
  by_cases c1 : o = 1
  · rw [if_pos ((E 1 1 rfl (by omega)).mpr c1), if_pos (Or.inl c1)]; exact ⟨_, rfl, fin, f0.l2⟩
  rw [if_neg (fun q => c1 ((E 1 1 rfl (by omega)).mp q))]
  by_cases c2 : o = 2
  · rw [if_pos ((E 2 2 rfl (by omega)).mpr c2), if_pos (Or.inr (Or.inl c2))]; exact ⟨_, rfl, fin, f0.l2⟩
  rw [if_neg (fun q => c2 ((E 2 2 rfl (by omega)).mp q))]
  by_cases c3 : o = 45
  · rw [if_pos ((E 45 45 rfl (by omega)).mpr c3), if_pos (Or.inr (Or.inr c3))]; exact ⟨_, rfl, fin, f0.l2⟩
  rw [if_neg (fun q => c3 ((E 45 45 rfl (by omega)).mp q)), if_neg (show ¬ (o = 1 ∨ o = 2 ∨ o = 45) by omega), h4, nI_1]
  obtain ⟨z1, q1, q3, q4, qt, qf⟩ := h.nd (F := F) (decide (i + 1 < len)) (v := 11) (by omega) (by omega)
  have q5 := h.need5 q1
  by_cases c : i + 1 < len
  · have ed : decide (i + 1 < len) = true := decide_eq_true c
    rw [ed] at q1
    have q1' : fn_X13_need F sh n z 355 1 11 = some (z1, ()) := q1
    obtain ⟨z2, s1, s2, s3⟩ := RK.come (F := F) hF (qt ed) (P.f5 q5) (fun z' q => hu z' (q3.l2.trans q)) hm (i := i) (t := i + 1) (by omega) (by omega) (fun q => by omega)
    rw [if_neg (fun q => by have := (nI_leI (by omega) (by omega)).mp q; omega), ed, nd_t, ok_b]
    unfold fn_X13_look_B216
    rw [q1', cal_s, nI_1, s1, cal_s]
    refine ⟨z2, rfl, ?_, q3.l2.trans s3⟩
    cases r : aCome U ls i (i + 1) L.2 R with
    | error w => rw [r] at s2; exact s2
    | ok R' => rw [r] at s2; exact ⟨⟨_, s2.1⟩, s2.2⟩
  · have ed : decide (i + 1 < len) = false := decide_eq_false c
    rw [ed] at q1
    have q1' : fn_X13_need F sh n z 355 0 11 = some (z1, ()) := q1
    have k := qf ed
    rw [if_pos ((nI_leI (by omega) (by omega)).mpr (by omega)), ed]
    unfold fn_X13_look_B216
    rw [q1', cal_s, k.come_e (by omega), cal_s]
    exact ⟨z1, rfl, ⟨by decide, _, k⟩, q3.l2⟩
end
