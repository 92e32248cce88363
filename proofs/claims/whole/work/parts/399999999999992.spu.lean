/-! THE CLASS'S LOOKER: one instruction, and all of a function -/
def FrA (z z' : St) : Prop := z'.2.2 = z.2.2 ∧ ∀ k, k < 62 ∨ 72 < k → z'.1 k = z.1 k ∧ z'.2.1 k = z.2.1 k
theorem FrA.rfl' {z : St} : FrA z z := ⟨rfl, fun _ _ => ⟨rfl, rfl⟩⟩
theorem FrA.trans {z z' z'' : St} (f : FrA z z') (g : FrA z' z'') : FrA z z'' := ⟨g.1.trans f.1, fun k a => ⟨(g.2 k a).1.trans (f.2 k a).1, (g.2 k a).2.trans (f.2 k a).2⟩⟩
theorem FrS.a {z z' : St} (f : FrS z z') : FrA z z' := ⟨f.1, f.2.1⟩
theorem FrA.si {z : St} {j : Nat} {v : Int32} : FrA z (si z 62 j v) := ⟨rfl, fun k hk => ⟨by funext l; rw [si_ok (by omega)], rfl⟩⟩
/-- what is so of what looking knows, before instruction i -/
def AI (U : Md) (f : Nat) (tg : Nat → Bool) (i : Nat) (S : Nat × (Nat → SS)) (R : Nat → Option Lc) : Prop := RN tg i R ∧ RO (locOf U f) R ∧ R63 R ∧ (∀ k, k < S.1 → ob (S.2 k).2.1 63 = false) ∧ ∀ t, t < i → (R t).isSome = true
theorem AI.step {U : Md} {f i o a b : Nat} {tg : Nat → Bool} {S : Nat × (Nat → SS)} {R : Nat → Option Lc} {p : (Nat × (Nat → SS)) × (Nat → Option Lc)} (h : AI U f tg i S R) (h40 : (locOf U f).length ≤ 40) (hi : InOk U f o a b) (ht : 2 ≤ o → o < 5 → tg a = true) (e : aStep U f tg i o a b S R = .ok p) : AI U f tg (i + 1) p.1 p.2 := by
  obtain ⟨h1, h2, h3, h4, h5⟩ := h
  obtain ⟨Q, L, R1, e1, e2, e3, e4, e5⟩ := aStep_s e
  have n63 : N63 (S, Q) := ⟨h4, h3 i Q e1⟩
  have l63 : N63 L := aOp63 n63 h40 hi L e3
  have lO : LcO (locOf U f) L.2 := aOpO (h2 i Q e1) L e3
  have r1 : RN tg i R1 ∧ RO (locOf U f) R1 ∧ R63 R1 ∧ ∀ t, t < i + 1 → (R1 t).isSome = true := by
    have s : ∀ t, t < i + 1 → (R t).isSome = true := fun t q => by
      by_cases c : t = i
      · rw [c, e1]; rfl
      · exact h5 t (by omega)
    rcases e4 with ⟨c1, c2, q⟩ | ⟨_, q⟩
    · refine ⟨fun j hj tf => ?_, comeO h2 lO q, come63 h3 l63.2 q, fun t tq => (aCome_s q).2 t (s t tq)⟩
      have : j ≠ a := fun e => by rw [e, ht c1 c2] at tf; cases tf
      rw [come_o q j this]; exact h1 j hj tf
    · rw [q]; exact ⟨h1, h2, h3, s⟩
  obtain ⟨g1, g2, g3, g4⟩ := r1
  rcases e5 with ⟨_, q⟩ | ⟨_, _, q1, q⟩
  · rw [q]
    exact ⟨fun j hj tf => g1 j (by omega) tf, g2, g3, fun k hk => absurd (show k < 0 from hk) (by omega), g4⟩
  · refine ⟨fun j hj tf => ?_, comeO g2 lO q, come63 g3 l63.2 q, by rw [q1]; exact l63.1, fun t tq => (aCome_s q).2 t (g4 t tq)⟩
    rw [come_o q j (by omega)]; exact g1 j (by omega) tf
section
variable {F n : Nat} {sh : Nat → Nat × Nat} {z z' : St} {kp f w ns : Nat} {ls : List Ty} {L M : Lks} {U : Md} {R : Nat → Option Lc} {tg : Nat → Bool} {S : Nat × (Nat → SS)} {pl ab : Nat → Nat}
theorem CK.s4 (h : CK sh n z kp f ls ns L) (v : Int32) : CK sh n (si z 62 4 v) kp f ls ns L := by
  obtain ⟨a1, a2, a3, a4, ⟨b1, b2, b3⟩, ⟨c0, c1⟩, c2, c3⟩ := h
  exact ⟨a1.of rfl, a2, by rw [si_oj (by omega)]; exact a3, by rw [si_oj (by omega)]; exact a4, ⟨by rw [si_oj (by omega)]; exact b1, b2, fun k hk => by rw [si_ok (by omega)]; exact b3 k hk⟩, ⟨c0, c1⟩, c2, c3⟩
theorem NxC.s4 {ln i : Nat} (h : NxC ln sh n z kp f ls ns tg i S R) (v : Int32) : NxC ln sh n (si z 62 4 v) kp f ls ns tg i S R := by
  obtain ⟨⟨C, k⟩, P, fl, e16, hf⟩ := h
  exact ⟨⟨C, k.s4 v⟩, P.si62 4 v, fl, by rw [si_oj (by omega)]; exact e16, fun q => ⟨(hf q).1, fun Q r => ((hf q).2 Q r).s4 v⟩⟩
/-- the class's program answers, in every state that differs in the looker alone -/
def CnA (F : Nat) (sh : Nat → Nat × Nat) (n : Nat) (z : St) (kp : Nat) (U : Md) (f : Nat) (pl ab : Nat → Nat) : Prop := CnL F sh n z kp U ∧ CnI F sh n z kp U f pl ab ∧ ∀ e, ∃ r, fn_X5_elementType F sh n z kp e = some (z, r)
theorem NxC.step (hF : 300 ≤ F) {i o : Nat} {x y : Int64} (h : NxC (codeOf U f).length sh n z kp f (locOf U f) U.1.2.2 tg i S R) (hA : AI U f tg i S R) (hu : ∀ z', FrS z z' → CnA F sh n z' kp U f pl ab) (hm : MdO U) (hf : f < faOf U) (hl : ∀ k, k < (locOf U f).length → LsO U.1.2.2 ((locOf U f).getD k [])) (hc : CdO U f) (hd : DrO z U (locOf U f)) (e4 : z.1 62 4 = nI i) (hi : (codeOf U f)[i]? = some (o, x, y)) (ht : 2 ≤ o → o < 5 → tg x.toInt.toNat = true) {K : St → Option (St × Int32)} : ∃ z', cal (fn_X3_arrive F sh n z 62) (fun z_26 _ => if ((z_26.1 62 1) : Int32) = 0 then cal (fn_X3_operate F sh n z_26 62) (fun z_35 _ => K z_35) else K z_26) = K z' ∧ LvC (codeOf U f).length sh n z' kp f (locOf U f) U.1.2.2 tg (i + 1) (aStep U f tg i o x.toInt.toNat y.toInt.toNat S R) ∧ FrS z z' := by
  obtain ⟨len, cod⟩ := hc
  have il : i < (codeOf U f).length := (List.getElem?_eq_some_iff.mp hi).1
  obtain ⟨io, ix, iy, it⟩ := cod i o x y hi
  have P := h.2.1
  obtain ⟨z1, q1, q2, q3⟩ := h.arrive (F := F) e4 (by omega) il
  rw [q1, cal_s]
  unfold aStep
  cases er : R i with
  | none =>
    rw [er] at q2
    have q2' : CR sh n z1 kp f (locOf U f) U.1.2.2 (.error 10) := q2
    rw [q2'.2.2.2.2.1.1, if_neg (nI_ne0 (by omega) (by omega))]
    exact ⟨z1, rfl, q2', q3.s⟩
  | some Q =>
    rw [er] at q2
    have q2' : CR sh n z1 kp f (locOf U f) U.1.2.2 (nd_ (!tg i || S.1 == 0) 8 >>= fun _ => .ok (S, Q)) := q2
    show ∃ z', _ ∧ LvC (codeOf U f).length sh n z' kp f (locOf U f) U.1.2.2 tg (i + 1) (nd_ (!tg i || S.1 == 0) 8 >>= fun _ => _) ∧ _
    cases eb : (!tg i || S.1 == 0) with
    | false =>
      rw [eb] at q2'
      have q2'' : CR sh n z1 kp f (locOf U f) U.1.2.2 (.error 8) := q2'
      rw [q2''.2.2.2.2.1.1, if_neg (nI_ne0 (by omega) (by omega))]
      exact ⟨z1, rfl, q2'', q3.s⟩
    | true =>
      rw [eb, nd_t, ok_b] at q2'
      have k1 : CK sh n z1 kp f (locOf U f) U.1.2.2 (S, Q) := q2'
      rw [nd_t, ok_b, k1.2.2.2.1, if_pos (show nI 0 = 0 from rfl)]
      obtain ⟨ul, ⟨ui1, ui2⟩, ue⟩ := hu z1 q3.s
      obtain ⟨u3, u4⟩ := ui2 i o x y hi
      have e4' : z1.1 62 4 = nI i := by rw [q3.s.2.2.2.1]; exact e4
      obtain ⟨z2, s1, s2, s3⟩ := k1.oper (F := F) hF (hA.2.1 i Q er) ⟨hA.2.2.2.1, hA.2.2.1 i Q er⟩ (fun z' q => (hu z' (q3.s.trans q.s)).1) ue hm hf hl (hd.s q3.s) e4' u3 u4 io (fun q => (iy (.inr (.inr q))).2)
      have f2 : FrS z z2 := q3.s.trans s3.s
      rw [s1]
      unfold fn_X3_operate_B248
      cases eo : aOp U f o x.toInt.toNat y.toInt.toNat (S, Q) with
      | error w =>
        rw [eo] at s2
        rw [s2.2.2.2.2.1.1, if_neg (nI_ne0 s2.1 (by have := s2.2.2.2.2.1.2; omega)), cal_s]
        exact ⟨z2, rfl, s2, f2⟩
      | ok L =>
        rw [eo] at s2
        have k2 : CK sh n z2 kp f (locOf U f) U.1.2.2 L := s2
        obtain ⟨ul2, ⟨ui3, ui4⟩, ue2⟩ := hu z2 f2
        obtain ⟨u5, u6⟩ := ui4 i o x y hi
        obtain ⟨_, _, _, ⟨rn, rn1, rn2⟩, _⟩ := u6
        obtain ⟨z3, t1, t2, t3⟩ := k2.leave (F := F) (U := U) (tg := tg) (R := R) hF (hd.s f2) ((P.qc q3).qc s3) (i := i) (o := o) (to := x.toInt.toNat) hA.1 (fun z' q => by
          obtain ⟨v1, v2, _⟩ := hu z' (f2.trans q)
          exact ⟨v1.1, v2.1⟩) (by rw [f2.2.2.2.1]; exact e4) il len (fun t tq => by
          by_cases c : t = i
          · rw [c, er]; rfl
          · exact hA.2.2.2.2 t (by omega)) (by have := io.1; omega) (x1 := rn.toInt32) (fun a1 a2 => by
          obtain ⟨to, w1, w2, w3⟩ := rn2 a1 a2
          rw [w2, w3, lN_tI (by omega)]
          refine ⟨rfl, ?_, ?_⟩
          · have := it a1 a2; rw [w3, lN_tI (by omega)] at this; exact this
          · have := ht a1 a2; rw [w3, lN_tI (by omega)] at this; exact this)
        rw [k2.2.2.2.1, if_pos (show nI 0 = 0 from rfl), k2.2.1, lnk_s, ul2.1, grd_true, rn1, cal_s, t1, cal_s, cal_s, ok_b]
        exact ⟨z3, rfl, t2, f2.trans t3⟩
/-- what a function's looking comes to -/
def LkQ (sh : Nat → Nat × Nat) (n kp f : Nat) (X Y : Option (St × Int32)) (p0 : Int32) (z' : St) : Option (Nat × Nat) → Prop
  | none => X = Y ∧ CB sh n z' kp f 0 ∧ z'.1 62 0 = p0
  | some q => X = some (z', nI (30 + q.1)) ∧ 0 < q.1 ∧ q.1 < 16 ∧ z'.1 62 0 = nI (1024 * f + q.2)
theorem look38 (hF : 1100 ≤ F) (hu : ∀ z', FrA z z' → CnA F sh n z' kp U f pl ab) (hm : MdO U) (hf : f < faOf U) (hl : ∀ k, k < (locOf U f).length → LsO U.1.2.2 ((locOf U f).getD k [])) (h40 : (locOf U f).length ≤ 40) (hc : CdO U f) (ht : ∀ (i o : Nat) (x y : Int64), (codeOf U f)[i]? = some (o, x, y) → 2 ≤ o → o < 5 → tg x.toInt.toNat = true) {K : St → Int32 → Option (St × Int32)} : ∀ r i g z1 S R, i + r = (codeOf U f).length → r < g → NxC (codeOf U f).length sh n z1 kp f (locOf U f) U.1.2.2 tg i S R → AI U f tg i S R → DrO z1 U (locOf U f) → z1.1 62 4 = nI i → FrA z z1 → ∃ z', FrA z1 z' ∧ LkQ sh n kp f (fn_X3_look_L38 F sh n 62 (nI f) K g z1) (K z' (nI (f + 1))) (z1.1 62 0) z' (aChk U f tg r i S R) := by
  intro r
  induction r with
  | zero =>
    intro i g z1 S R ei hg N A D e4 fz
    obtain ⟨g, rfl⟩ : ∃ q, g = q + 1 := ⟨g - 1, by omega⟩
    obtain ⟨⟨C, k⟩, _⟩ := N
    obtain ⟨u1, u2, u3⟩ := hu z1 fz
    have len := hc.1
    refine ⟨z1, FrA.rfl', ?_⟩
    show fn_X3_look_L38 F sh n 62 (nI f) K (g + 1) z1 = K z1 (nI (f + 1)) ∧ _
    unfold fn_X3_look_L38
    rw [k.2.1, lnk_s, u1.1, grd_true, u2.1, cal_s, e4, if_pos ((nI_leI (by omega) (by omega)).mpr (by omega)), nI_1]
    exact ⟨rfl, k.cb, rfl⟩
  | succ r ih =>
    intro i g z1 S R ei hg N A D e4 fz
    obtain ⟨g, rfl⟩ : ∃ q, g = q + 1 := ⟨g - 1, by omega⟩
    have il : i < (codeOf U f).length := by omega
    have len := hc.1
    obtain ⟨o, x, y, hi⟩ : ∃ o x y, (codeOf U f)[i]? = some (o, x, y) := ⟨_, _, _, List.getElem?_eq_getElem il⟩
    obtain ⟨u1, u2, u3⟩ := hu z1 fz
    have k2 : z1.2.2 62 2 = some kp := by obtain ⟨⟨C, k⟩, _⟩ := N; exact k.2.1
    obtain ⟨z2, s1, s2, s3⟩ := N.step (F := F) (by omega) A (fun z' q => hu z' (fz.trans q.a)) hm hf hl hc D e4 hi (ht i o x y hi) (K := fun z => fn_X3_look_B68 F sh n 62 (nI f) (fun z9 => fn_X3_look_L38 F sh n 62 (nI f) K g z9) z)
    have hd : fn_X3_look_L38 F sh n 62 (nI f) K (g + 1) z1 = fn_X3_look_B68 F sh n 62 (nI f) (fun z9 => fn_X3_look_L38 F sh n 62 (nI f) K g z9) z2 := by
      conv => lhs; unfold fn_X3_look_L38
      rw [k2, lnk_s, u1.1, grd_true, u2.1, cal_s, e4, if_neg (fun q => by have := (nI_leI (by omega) (by omega)).mp q; omega), s1]
    have e4' : z2.1 62 4 = nI i := by rw [s3.2.2.2.1]; exact e4
    have ec : aChk U f tg (r + 1) i S R = (match aStep U f tg i o x.toInt.toNat y.toInt.toNat S R with | .error w => some (w, i) | .ok p => aChk U f tg r (i + 1) p.1 p.2) := by
      conv => lhs; unfold aChk
      rw [hi]
      rfl
    rw [ec, hd]
    unfold fn_X3_look_B68
    cases e : aStep U f tg i o x.toInt.toNat y.toInt.toNat S R with
    | error w =>
      rw [e] at s2
      have w16 := s2.2.2.2.2.1.2
      have f16 := s2.2.2.2.2.1.1
      refine ⟨si z2 62 0 (1024 * nI f + nI i), s3.a.trans FrA.si, ?_⟩
      rw [f16, if_neg (nI_ne0 s2.1 (by omega)), lt_t, e4']
      refine ⟨?_, s2.1, w16, ?_⟩
      · rw [si_oj (by omega), f16, show (30 : Int32) = nI 30 from rfl, nI_add]
      · rw [si_ss]
        show 1024 * nI f + nI i = nI (1024 * f + i)
        rw [show (1024 : Int32) = nI 1024 from rfl, pk_mul, nI_add]
    | ok p =>
      rw [e] at s2
      have N2 : NxC (codeOf U f).length sh n z2 kp f (locOf U f) U.1.2.2 tg (i + 1) p.1 p.2 := s2
      have f16 : z2.1 62 1 = nI 0 := by obtain ⟨⟨C, k⟩, _⟩ := N2; exact k.2.2.2.1
      have A2 := A.step h40 (hc.2 i o x y hi).1 (ht i o x y hi) e
      obtain ⟨z3, t1, t2⟩ := ih (i + 1) g (si z2 62 4 (nI (i + 1))) p.1 p.2 (by omega) (by omega) (N2.s4 _) A2 (fun k hk => D.s s3 k hk) si_ss (fz.trans (s3.a.trans FrA.si))
      refine ⟨z3, (s3.a.trans FrA.si).trans t1, ?_⟩
      rw [f16, if_pos (show nI 0 = 0 from rfl), lt_t, e4', nI_1]
      have e0 : (si z2 62 4 (nI (i + 1))).1 62 0 = z1.1 62 0 := by rw [si_oj (by omega)]; exact s3.2.2.2.2
      rw [e0] at t2
      exact t2
end
