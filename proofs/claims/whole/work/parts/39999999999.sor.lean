/-! THE REFERENCE'S LOOKER: a function, as a whole -/
def S0 : Nat × (Nat → SS) := (0, fun _ => ([], 0, false))
section
variable {F n : Nat} {sh : Nat → Nat × Nat} {z z' : St} {ku f w ns : Nat} {U : Md} {R : Nat → Option Lc} {S : Nat × (Nat → SS)}
theorem beginT (hF : 1100 ≤ F) (hL : Lay sh n z) (l0 : z.2.2 355 0 = some ku) (e1 : z.1 355 1 = nI f) (h40 : (locOf U f).length ≤ 40) (hu : ∀ z', FrL3 z z' → UnL F sh n z' ku U ∧ UnI F sh n z' ku U f ∧ UnB F sh n z' ku U f) (hm : MdO U) (hf : f < faOf U) (hl : ∀ k, k < (locOf U f).length → LsO U.1.2.2 ((locOf U f).getD k [])) (hc : CdO U f) : ∃ z', fn_X13_begin F sh n z 355 = some (z', ()) ∧ RKp sh n z' ku f (locOf U f) U.1.2.2 S0 (Q0 U f) 0 ∧ RcS z' (locOf U f).length (R0 U f) ∧ z'.1 355 4 = nI (codeOf U f).length ∧ (∀ t, t < 1025 → z'.1 358 t = bI (tgOf U f t)) ∧ FrL3 z z' := by
  have el : (locOf U f).length = (tksOf U f).length + (locL U f).length := List.length_append
  have f5 : ∀ (z1 : St) (j : Nat) (v : Int32), FrL3 z1 (si z1 355 j v) := fun z1 j v => ⟨rfl, fun k hk => ⟨by funext q; rw [si_ok (by omega)], rfl⟩⟩
  have o13 : okO sh n 355 13 = true := lay_o hL 355 13 0 (by decide) rfl
  have fa : FrL3 z (si (si z 355 18 0) 355 14 0) := (f5 _ _ _).trans (f5 _ _ _)
  have fb : FrL3 z (si (si (si z 355 18 0) 355 14 0) 355 4 (nI (codeOf U f).length)) := fa.trans (f5 _ _ _)
  have fc : FrL3 z (si (si (si (si z 355 18 0) 355 14 0) 355 4 (nI (codeOf U f).length)) 355 2 (nI (locOf U f).length)) := fb.trans (f5 _ _ _)
  obtain ⟨ua, uia, _⟩ := hu _ fa
  obtain ⟨ub, _, ubb⟩ := hu _ fb
  have ea : (si (si z 355 18 0) 355 14 0).1 355 1 = nI f := by rw [si_oj (by omega), si_oj (by omega)]; exact e1
  have eb : (si (si (si z 355 18 0) 355 14 0) 355 4 (nI (codeOf U f).length)).1 355 1 = nI f := by rw [si_oj (by omega)]; exact ea
  have hb : fn_X13_begin F sh n z 355 = fn_X13_begin_L58 F sh n 355 (nI (tksOf U f).length) F (si (si (si (si z 355 18 0) 355 14 0) 355 4 (nI (codeOf U f).length)) 355 2 (nI (locOf U f).length)) 0 := by
    unfold fn_X13_begin
    rw [o13, grd_true, lt_t, lt_t, si_3, si_3, l0, lnk_s, ua.1, grd_true, ea, uia.1, cal_s, lt_t, si_3, si_3, si_3, l0, lnk_s, ub.1, grd_true, eb, (ub.2.1 f hf).1.1, cal_s, si_3, si_3, si_3, l0, lnk_s, ub.1, grd_true, eb, ubb.1, cal_s, lt_t, nI_add, ← el]
  generalize ez : si (si (si (si z 355 18 0) 355 14 0) 355 4 (nI (codeOf U f).length)) 355 2 (nI (locOf U f).length) = z24 at hb fc
  have L24 : Lay sh n z24 := hL.of fc.1
  have g1 : z24.1 355 1 = nI f := by rw [← ez, si_oj (by omega)]; exact eb
  have g2 : z24.1 355 2 = nI (locOf U f).length := by rw [← ez, si_ss]
  have g4 : z24.1 355 4 = nI (codeOf U f).length := by rw [← ez, si_oj (by omega), si_ss]
  have g14 : z24.1 355 14 = 0 := by rw [← ez, si_oj (by omega), si_oj (by omega), si_ss]
  have g18 : z24.1 355 18 = 0 := by rw [← ez, si_oj (by omega), si_oj (by omega), si_oj (by omega), si_ss]
  have gl : z24.2.2 355 0 = some ku := by rw [fc.1]; exact l0
  obtain ⟨za, a1, a2, a3⟩ := begK (F := F) hF L24 gl g1 g2 h40 (fun z' q => hu z' (fc.trans q)) hf (locOf U f).length 0 F z24 (by omega) (by omega) Onl.rfl' (fun k hk => absurd hk (by omega))
  have La : Lay sh n za := L24.of a2.1
  obtain ⟨zb, b1, b2, b3⟩ := begC (F := F) hF La (nI (tksOf U f).length) 1025 0 F za (by omega) (by omega) Onl.rfl' (fun k hk => absurd hk (by omega))
  have Lb : Lay sh n zb := La.of b2.1
  have fab : FrL3 z zb := (fc.trans (a2.l3 (fun k hk => by simp at hk; omega))).trans (b2.l3 (fun k hk => by simp at hk; omega))
  have c5 : zb.1 355 = z24.1 355 := (b2.2 355 (by simp)).1.trans (a2.2 355 (by simp)).1
  obtain ⟨zc, c1, c2, c3⟩ := begJ (F := F) hF Lb (by rw [b2.1, a2.1]; exact gl) (by rw [c5]; exact g1) (by rw [c5]; exact g4) (fun z' q => hu z' (fab.trans q)) hc (nI (tksOf U f).length) (codeOf U f).length 0 F zb (by omega) (by have := hc.1; omega) Onl.rfl' (fun t ht => by rw [(b3 t ht).2]; rfl)
  have Lc' : Lay sh n (si zc 357 0 1) := Lb.of (c2.1)
  have d5 : (si zc 357 0 1).1 355 = z24.1 355 := by
    funext j
    rw [si_ok (by omega), (c2.2 355 (by simp)).1, c5]
  have d6 : ∀ k, k < (locOf U f).length → (si zc 357 0 1).2.1 356 k = tL ((locOf U f).getD k []) := fun k hk => by
    rw [si_2, (c2.2 356 (by simp)).2, (b2.2 356 (by simp)).2]; exact a3 k hk
  have h8 := (hm.2.2.2.2 f hf).2.1
  obtain ⟨zd, d1, d2, d3⟩ := begR (F := F) hF h8 Lc' (by rw [d5]; exact g2) h40 hl d6 (locOf U f).length 0 F _ (by omega) (by omega) Onl.rfl' (fun k hk => absurd hk (by omega))
  have x5 : zd.1 355 = z24.1 355 := (d2.2 355 (by simp)).1.trans d5
  have xl : zd.2.2 = z24.2.2 := by rw [d2.1, si_3, c2.1, b2.1, a2.1]
  refine ⟨zd, ?_, ⟨L24.of xl, ⟨by rw [xl]; exact gl, by rw [x5]; exact g1, by rw [x5]; exact g2, h40, fun k hk => ⟨by rw [(d2.2 356 (by simp)).2]; exact d6 k hk, (hl k hk).1⟩⟩, ⟨by rw [x5]; exact g14, by show 0 ≤ 65; omega, fun _ => by show 0 ≤ 64; omega, fun k hk => absurd (show k < 0 from hk) (by omega)⟩, fun k hk => absurd hk (by omega), by rw [x5]; exact g18, by omega⟩, fun t ht => ?_, by rw [x5]; exact g4, fun t ht => by rw [(d2.2 358 (by simp)).1, si_ok (by omega)]; exact c3 t ht, ?_⟩
  · rw [hb]
    have a1' : fn_X13_begin_L58 F sh n 355 (nI (tksOf U f).length) F z24 0 = _ := a1
    have b1' : fn_X13_begin_L116 F sh n 355 (nI (tksOf U f).length) F za 0 = _ := b1
    have c1' : fn_X13_begin_L145 F sh n 355 (nI (tksOf U f).length) F zb 0 = _ := c1
    have d1' : fn_X13_begin_L211 F sh n 355 (nI (tksOf U f).length) F (si zc 357 0 1) 0 = _ := d1
    rw [a1', b1', c1', d1']
  · unfold R0
    rw [(d2.2 357 (by simp)).1]
    by_cases c : t = 0
    · subst c
      rw [if_pos rfl, si_ss]
      refine ⟨rfl, fun Q q k hk => ?_⟩
      cases q
      have := d3 k hk
      rw [show 40 * 0 + k = k by omega]
      exact this
    · rw [if_neg c, si_oj c, (c2.2 357 (by simp)).1, (b3 t ht).1]
      exact ⟨rfl, fun Q q => by cases q⟩
  · have f6 : FrL3 zc (si zc 357 0 1) := ⟨rfl, fun k hk => ⟨by funext q; rw [si_ok (by omega)], rfl⟩⟩
    exact ((fab.trans (c2.l3 (fun k hk => by simp at hk; omega))).trans f6).trans (d2.l3 (fun k hk => by simp at hk; omega))
theorem check_0 (hF : 1100 ≤ F) (hu : ∀ z', FrL2 z z' → UnL F sh n z' ku U ∧ UnI F sh n z' ku U f) (hm : MdO U) (hf : f < faOf U) (hl : ∀ k, k < (locOf U f).length → LsO U.1.2.2 ((locOf U f).getD k [])) (hc : CdO U f) (h4 : z.1 355 4 = nI (codeOf U f).length) {tg : Nat → Bool} (h7 : ∀ t, t < 1025 → z.1 358 t = bI (tg t)) {Q : Lc} (k : RKp sh n z ku f (locOf U f) U.1.2.2 S Q 0) (hQ : R 0 = some Q) (hS : S.1 = 0) (P : RcS z (locOf U f).length R) (i r g : Nat) (i0 : i = 0) (ei : i + (r + 1) = (codeOf U f).length) (hg : r + 1 < g + 1) : ∃ z' v, fn_X13_check_L16 F sh n 355 (g + 1) z (nI i) = some (z', v) ∧ ChR sh n z' ku f (locOf U f) U.1.2.2 v (aChk U f tg (r + 1) i S R) ∧ FrL2 z z' := by
  have len := hc.1
  have il : i < (codeOf U f).length := by omega
  have hb : ∀ t, t < i → (R t).isSome = true := fun t q => by omega
  obtain ⟨o, x, y, hi⟩ : ∃ o x y, (codeOf U f)[i]? = some (o, x, y) := ⟨_, _, _, List.getElem?_eq_getElem il⟩
  obtain ⟨z2, s1, s2, s3⟩ := look_0 (F := F) (by omega) k hQ hS P hu hm hf hl hc h4 (tg := tg) h7 i0 hi
  conv => enter [1, z', 1, v, 1, 1]; unfold fn_X13_check_L16
  unfold aChk
  rw [h4, if_neg (fun q => by have := (nI_leI (by omega) (by omega)).mp q; omega), if_pos (show z.1 355 18 = 0 from k.2.2.2.2.1), s1, cal_s, hi]
  show ∃ z' v, _ ∧ ChR sh n z' ku f (locOf U f) U.1.2.2 v (match aStep U f tg i o x.toInt.toNat y.toInt.toNat S R with | .error w => some (w, i) | .ok p => aChk U f tg r (i + 1) p.1 p.2) ∧ _
  unfold fn_X13_check_B48
  cases e : aStep U f tg i o x.toInt.toNat y.toInt.toNat S R with
  | error w =>
    rw [e] at s2
    obtain ⟨w0, M, k2⟩ := s2
    have k3 : RK sh n (si z2 355 5 (nI i)) ku f (locOf U f) U.1.2.2 w M := by
      obtain ⟨a1, ⟨a2, a3, a4, a5, a6⟩, ⟨b1, b2, b3, b4⟩, c1, d1, d2⟩ := k2
      exact ⟨a1.of rfl, ⟨a2, by rw [si_oj (by omega)]; exact a3, by rw [si_oj (by omega)]; exact a4, a5, a6⟩, ⟨by rw [si_oj (by omega)]; exact b1, b2, b3, fun k hk => by rw [si_ok (by omega)]; exact b4 k hk⟩, fun k hk => by rw [si_ok (by omega), si_ok (by omega)]; exact c1 k hk, by rw [si_oj (by omega)]; exact d1, d2⟩
    have f3 : FrL2 z2 (si z2 355 5 (nI i)) := ⟨rfl, fun k hk => ⟨by funext l; rw [si_ok (by omega)], rfl⟩, by rw [si_oj (by omega)]⟩
    have w16 := k3.2.2.2.2.2
    obtain ⟨g', rfl⟩ : ∃ q, g = q + 1 := ⟨g - 1, by omega⟩
    rw [if_neg (k2.ee w0), lt_t]
    refine ⟨si z2 355 5 (nI i), nI w, ?_, ⟨rfl, w0, w16, si_ss⟩, s3.trans f3⟩
    show fn_X13_check_L16 F sh n 355 (g' + 1) (si z2 355 5 (nI i)) (nI i + 1) = _
    conv => lhs; unfold fn_X13_check_L16
    rw [if_neg (k3.ee w0), k3.2.2.2.2.1]
    by_cases c : (si z2 355 5 (nI i)).1 355 4 ≤ nI i + 1
    · rw [if_pos c]
    · rw [if_neg c]
  | ok p =>
    rw [e] at s2
    obtain ⟨⟨C2, k2⟩, P2⟩ := s2
    have hb2 : ∀ t, t < i + 1 → (p.2 t).isSome = true := fun t ht => by
      obtain ⟨Q, L', R1, e1, _, _, e4, e5⟩ := aStep_s e
      have m0 : (R t).isSome = true := by
        by_cases c : t = i
        · rw [c, e1]; rfl
        · exact hb t (by omega)
      have m1 : (R1 t).isSome = true := by
        rcases e4 with ⟨_, _, q⟩ | ⟨_, q⟩
        · exact (aCome_s q).2 t m0
        · rw [q]; exact m0
      rcases e5 with ⟨_, q⟩ | ⟨_, _, _, q⟩
      · rw [q]; exact m1
      · exact (aCome_s q).2 t m1
    obtain ⟨z3, v, t1, t2, t3⟩ := check_l (F := F) hF hu hm hf hl hc h4 h7 r (i + 1) g z2 p.1 C2 p.2 (by omega) (by omega) k2 P2 s3 hb2
    rw [if_pos k2.e0, nI_1]
    exact ⟨z3, v, t1, t2, s3.trans t3⟩
/-- a function is looked at -/
def vrd (U : Md) (f : Nat) : Option (Nat × Nat) := aChk U f (tgOf U f) (codeOf U f).length 0 S0 (R0 U f)
theorem checkT (hF : 1100 ≤ F) (hL : Lay sh n z) (h40 : (locOf U f).length ≤ 40) (hu : ∀ z', FrL3 (si (sq z 355 0 (some ku)) 355 1 (nI f)) z' → UnL F sh n z' ku U ∧ UnI F sh n z' ku U f ∧ UnB F sh n z' ku U f) (hm : MdO U) (hf : f < faOf U) (hl : ∀ k, k < (locOf U f).length → LsO U.1.2.2 ((locOf U f).getD k [])) (hc : CdO U f) (h1 : 0 < (codeOf U f).length) : ∃ z' v, fn_X13_check F sh n z 355 ku (nI f) = some (z', v) ∧ ChR sh n z' ku f (locOf U f) U.1.2.2 v (vrd U f) ∧ FrL3 (si (sq z 355 0 (some ku)) 355 1 (nI f)) z' := by
  have L1 : Lay sh n (si (sq z 355 0 (some ku)) 355 1 (nI f)) := (hL.sq (by decide)).of rfl
  have o13 : okO sh n 355 13 = true := lay_o hL 355 13 0 (by decide) rfl
  obtain ⟨z1, q1, q2, q3, q4, q5, q6⟩ := beginT (F := F) hF L1 (by rw [si_3]; unfold sq; simp) si_ss h40 hu hm hf hl hc
  have len := hc.1
  obtain ⟨r, er⟩ : ∃ r, (codeOf U f).length = r + 1 := ⟨(codeOf U f).length - 1, by omega⟩
  obtain ⟨G, eG⟩ : ∃ g, F = g + 1 := ⟨F - 1, by omega⟩
  obtain ⟨z2, v, s1, s2, s3⟩ := check_0 (F := F) hF (fun z' q => ⟨(hu z' (q6.trans q.l3)).1, (hu z' (q6.trans q.l3)).2.1⟩) hm hf hl hc q4 q5 q2 (show R0 U f 0 = some (Q0 U f) from if_pos rfl) rfl q3 0 r G rfl (by omega) (by omega)
  rw [← eG] at s1
  have s1' : fn_X13_check_L16 F sh n 355 F z1 0 = some (z2, v) := s1
  unfold fn_X13_check vrd
  rw [o13, grd_true, lt_t, lt_t, q1, cal_s, er]
  exact ⟨z2, v, s1', s2, q6.trans s3.l3⟩
/-- where nothing is wrong, there is a certificate -/
theorem vrd_cert (hc : CdO U f) (h1 : 0 < (codeOf U f).length) (h : vrd U f = none) : ∃ C, Cert U f C := by
  obtain ⟨C, c1, c2, c3, c4⟩ := aChk_cert (U := U) (f := f) (tg := tgOf U f) (fun j o x y q a b => ⟨(hc.2 j o x y q).2.2.2 a b, tgOf_j q a b⟩) (codeOf U f).length 0 S0 (R0 U f) (fun _ => (S0, Q0 U f)) (by omega) (fun t q => by omega) h
  obtain ⟨Q, d1, d2⟩ := c2 h1
  have eQ : Q = Q0 U f := by
    have : R0 U f 0 = some (Q0 U f) := if_pos rfl
    rw [this] at d1; cases d1; rfl
  refine ⟨C, h1, by rw [d2]; rfl, fun k hk => ?_, fun i o x y q => c4 i o x y (by omega) q⟩
  rw [d2, eQ]
  refine ⟨rfl, fun a b => ⟨?_, rfl⟩⟩
  show (if (decide (k < (tksOf U f).length) && isR ((locOf U f).getD k [])) = true then bitO (40 + k) else 0) = _
  have a' : decide (k < (tksOf U f).length) = true := a
  rw [a', b]; rfl
end
