/-! THE CLASS'S LOOKER: all of it -/
theorem ob_low {t : Nat} (ht : t < 63) (k : Nat) : ob ((1 <<< ((nI t).toInt64 &&& 63) : Int64) - 1) k = decide (k < t) := by
  rw [bit_n (by omega)]
  have p1 : 0 < 2 ^ t := Nat.pos_of_ne_zero (by simp)
  have p2 : 2 ^ t < 2 ^ 64 := Nat.pow_lt_pow_right (by omega) (by omega)
  have e : N (bitO t - 1) = 2 ^ t - 1 := by
    rw [N_sub, N_bitO (by omega), N_1]
    omega
  have eo : ob (bitO t - 1) k = Nat.testBit (N (bitO t - 1)) k := rfl
  rw [eo, e, Nat.testBit_two_pow_sub_one]
theorem nrmQ0 (U : Md) (f : Nat) : CResourceLedgerLaw_law_r8937_d13e27.nrm (Q0 U f) = Q0 U f := by
  unfold CResourceLedgerLaw_law_r8937_d13e27.nrm Q0
  refine Prod.ext rfl (Prod.ext ?_ ?_)
  · funext k
    show (if decide (k < (tksOf U f).length) = true then (if (decide (k < (tksOf U f).length) && isR ((locOf U f).getD k [])) = true then bitO (40 + k) else 0) else 0) = (if (decide (k < (tksOf U f).length) && isR ((locOf U f).getD k [])) = true then bitO (40 + k) else 0)
    cases decide (k < (tksOf U f).length) with
    | true => rw [if_pos rfl]
    | false => rw [if_neg (by simp), Bool.false_and, if_neg (by simp)]
  · funext k
    show (decide (k < (tksOf U f).length) && false) = false
    rw [Bool.and_false]
theorem AI.start {U : Md} {f : Nat} {tg : Nat → Bool} (h8 : (tksOf U f).length ≤ 8) : AI U f tg 0 S0 (R0 U f) := by
  refine ⟨fun j hj _ => by unfold R0; rw [if_neg (by omega)], fun t Q q => ?_, fun t Q q => ?_, fun k hk => absurd (show k < 0 from hk) (by omega), fun t ht => by omega⟩
  · unfold R0 at q
    by_cases c : t = 0
    · rw [if_pos c] at q; cases q
      intro k hk h1 h2
      refine ⟨?_, rfl⟩
      show (if (decide (k < (tksOf U f).length) && isR ((locOf U f).getD k [])) = true then bitO (40 + k) else 0) = 0
      rw [h2, Bool.and_false]; rfl
    · rw [if_neg c] at q; cases q
  · unfold R0 at q
    by_cases c : t = 0
    · rw [if_pos c] at q; cases q
      intro k hk
      have k8 : k < (tksOf U f).length := of_decide_eq_true hk
      show ob (if (decide (k < (tksOf U f).length) && isR ((locOf U f).getD k [])) = true then bitO (40 + k) else 0) 63 = false
      by_cases c : (decide (k < (tksOf U f).length) && isR ((locOf U f).getD k [])) = true
      · rw [if_pos c]; exact bit63 (40 + k) (by omega)
      · rw [if_neg c]; exact o063
    · rw [if_neg c] at q; cases q
section
variable {F n : Nat} {sh : Nat → Nat × Nat} {z z' : St} {kp f w ns : Nat} {U : Md} {pl ab : Nat → Nat}
theorem prepC (hF : 1100 ≤ F) (hL : Lay sh n z) (l2 : z.2.2 62 2 = some kp) (e1 : z.1 62 1 = nI 0) (hu : ∀ z', FrA z z' → CnA F sh n z' kp U f pl ab ∧ CnB F sh n z' kp U f) (hm : MdO U) (hf : f < faOf U) (hl : ∀ k, k < (locOf U f).length → LsO U.1.2.2 ((locOf U f).getD k [])) (h40 : (locOf U f).length ≤ 40) (hc : CdO U f) (h1 : 0 < (codeOf U f).length) : ∃ z', fn_X3_prepare F sh n z 62 (nI f) = some (z', ()) ∧ NxC (codeOf U f).length sh n z' kp f (locOf U f) U.1.2.2 (tgOf U f) 0 S0 (R0 U f) ∧ DrO z' U (locOf U f) ∧ FrA z z' ∧ z'.1 62 0 = z.1 62 0 := by
  have o3 : okO sh n 62 3 = true := lay_o hL 62 3 0 (by decide) rfl
  have t8 := (hm.2.2.2.2 f hf).2.1
  have len := hc.1
  have fA : FrA z (si z 62 3 (nI f)) := FrA.si
  obtain ⟨⟨u1, u2, _⟩, _⟩ := hu _ fA
  obtain ⟨zB, b1, b2, b3⟩ := pr22 (F := F) (sh := sh) (n := n) (z := si z 62 3 (nI f)) (hL.of rfl) len (nI f) (codeOf U f).length 0 F (si z 62 3 (nI f)) (by omega) (by omega) Onl.rfl' (fun k hk => absurd hk (by omega))
  have fB : FrA z zB := fA.trans (b2.fa (fun k hk => by simp at hk; omega))
  have LB : Lay sh n zB := hL.of fB.1
  obtain ⟨zC, c1, c2, c3⟩ := pr49 (F := F) (sh := sh) (n := n) (z := zB) LB (by rw [fB.1]; exact l2) (fun z' q => (hu z' (fB.trans q)).1) hc (codeOf U f).length 0 F zB (by omega) (by omega) Onl.rfl' (fun t ht => by rw [(b3 t ht).1]; rfl)
  have fC : FrA z zC := fB.trans (c2.fa (fun k hk => by simp at hk; omega))
  have LC : Lay sh n zC := hL.of fC.1
  have fsl : ∀ (y : St) (j : Nat) (v : Int64), FrA y (sl y 62 j v) := fun y j v => ⟨rfl, fun k hk => ⟨rfl, by funext q; rw [sl_ok (by omega)]⟩⟩
  have fD1 : FrA z (sl (si zC 62 8 0) 62 13 0) := (fC.trans FrA.si).trans (fsl _ _ _)
  obtain ⟨⟨v1, _, _⟩, _⟩ := hu _ fD1
  generalize eD : sl (sl (sl (si zC 62 8 0) 62 13 0) 62 12 ((1 <<< ((nI (tksOf U f).length).toInt64 &&& 63)) - 1)) 62 11 0 = zD
  have fD : FrA z zD := by rw [← eD]; exact (fD1.trans (fsl _ _ _)).trans (fsl _ _ _)
  have LD : Lay sh n zD := hL.of fD.1
  have d11 : zD.2.1 62 11 = 0 := by rw [← eD, sl_ss]
  obtain ⟨zE, g1, g2, g3, g4, g5⟩ := pr159 (F := F) (sh := sh) (n := n) (z := zD) hF LD (by rw [fD.1]; exact l2) (fun z' q => hu z' (fD.trans q)) hm hf hl h40 40 0 F zD (by omega) (by omega) Onl.rfl' ⟨rfl, fun _ _ => rfl⟩ (fun k hk => absurd hk (by omega)) (fun j => by rw [d11, show ob 0 j = false from ob_zero.mp rfl j, decide_eq_false (by omega)]; rfl)
  have fE : FrA z zE := fD.trans (g2.fa (fun k hk => by simp at hk; omega))
  have LE : Lay sh n zE := hL.of fE.1
  -- the whole way
  have b1' : fn_X3_prepare_L22 F sh n (nI (codeOf U f).length) 62 (nI f) F (si z 62 3 (nI f)) 0 = _ := b1
  have c1' : fn_X3_prepare_L49 F sh n (nI (codeOf U f).length) 62 (nI f) F zB 0 = _ := c1
  have g1' : fn_X3_prepare_L159 F sh n 62 (nI f) F zD 0 = _ := g1
  have way : fn_X3_prepare F sh n z 62 (nI f) = prepE F sh n zE := by
    unfold fn_X3_prepare
    rw [o3, grd_true, lt_t, si_3, l2, lnk_s, u1.1, grd_true, u2.1, cal_s, if_neg (fun q => by have := (nIgt (x := 1024) 1024 rfl (by omega) (by omega)).mp q; omega), lt_t, b1', c1']
    unfold prepT
    rw [lt_t, lt_t, sl_3, si_3, fC.1, l2, lnk_s, v1.1, grd_true, ((v1.2.1 f hf).1).1, cal_s, lt_t, lt_t, eD, g1']
  -- the row of 62
  have i62 : zE.1 62 = (si zC 62 8 0).1 62 := by rw [g3.1, ← eD]; rfl
  have iC : zC.1 62 = (si z 62 3 (nI f)).1 62 := by rw [(c2.2 62 (by simp)).1, (b2.2 62 (by simp)).1]
  have i0 : zE.1 62 0 = z.1 62 0 := by rw [i62, si_oj (by omega), iC, si_oj (by omega)]
  have i1 : zE.1 62 1 = nI 0 := by rw [i62, si_oj (by omega), iC, si_oj (by omega)]; exact e1
  have i3 : zE.1 62 3 = nI f := by rw [i62, si_oj (by omega), iC, si_ss]
  have i8 : zE.1 62 8 = nI 0 := by rw [i62, si_ss]; rfl
  have l12 : zE.2.1 62 12 = (1 <<< ((nI (tksOf U f).length).toInt64 &&& 63)) - 1 := by rw [g3.2 12 (by omega), ← eD, sl_oj (by omega), sl_ss]
  have l13 : zE.2.1 62 13 = 0 := by rw [g3.2 13 (by omega), ← eD, sl_oj (by omega), sl_oj (by omega), sl_ss]
  have el : (locOf U f).length = (tksOf U f).length + (locL U f).length := List.length_append
  have kE : CK sh n zE kp f (locOf U f) U.1.2.2 (S0, Q0 U f) := by
    refine ⟨LE, by rw [fE.1]; exact l2, i3, i1, ⟨i8, by show 0 ≤ 64; omega, fun k hk => absurd (show k < 0 from hk) (by omega)⟩, ⟨h40, fun k hk => ?_⟩, fun k => ?_, fun k hk => ?_⟩
    · have e := (g4 k (by omega)).1
      unfold tyA at e
      rw [if_pos hk] at e
      exact ⟨e, (hl k hk).1⟩
    · rw [l12, l13, ob_low (by omega), show ob 0 k = false from ob_zero.mp rfl k]
      show _ = (decide (k < (locOf U f).length) && decide (k < (tksOf U f).length)) ∧ false = (decide (k < (locOf U f).length) && decide (k < (tksOf U f).length) && false)
      refine ⟨?_, by rw [Bool.and_false]⟩
      by_cases c : k < (tksOf U f).length
      · rw [decide_eq_true c, decide_eq_true (show k < (locOf U f).length by omega)]; rfl
      · rw [decide_eq_false c, Bool.and_false]
    · rw [(g4 k hk).2]
      show orA U f k = if (decide (k < (locOf U f).length) && decide (k < (tksOf U f).length)) = true then (if (decide (k < (tksOf U f).length) && isR ((locOf U f).getD k [])) = true then bitO (40 + k) else 0) else 0
      unfold orA tyA
      by_cases c : k < (tksOf U f).length
      · rw [if_pos (show k < (locOf U f).length by omega), decide_eq_true c, decide_eq_true (show k < (locOf U f).length by omega)]; rfl
      · rw [decide_eq_false c, Bool.and_false, Bool.false_and]; rfl
  have r68 : ∀ t, t < (codeOf U f).length → zE.1 68 t = bI (tgOf U f t) := fun t ht => by
    rw [(g2.2 68 (by simp)).1, ← eD]
    show (si zC 62 8 0).1 68 t = _
    rw [si_ok (by omega)]; exact c3 t ht
  have r69 : ∀ t, t < (codeOf U f).length → zE.1 69 t = 0 := fun t ht => by
    rw [(g2.2 69 (by simp)).1, ← eD]
    show (si zC 62 8 0).1 69 t = _
    rw [si_ok (by omega), (c2.2 69 (by simp)).1]; exact (b3 t ht).2
  have P0 : RcC (codeOf U f).length zE (locOf U f).length (tgOf U f) (fun _ => none) := fun t ht => ⟨r68 t ht, fun _ => ⟨by rw [r69 t ht]; rfl, fun Q q => by cases q⟩⟩
  have kF := kE.s16 1
  have PF := P0.si62 16 1
  have dE : DrO zE U (locOf U f) := fun k hk => by
    rw [g5 k, decide_eq_true (show k < 40 by omega), Bool.true_and]
    unfold tyA
    rw [if_pos hk]
  have fF : FrA zE (si zE 62 16 1) := FrA.si
  rw [way]
  unfold prepE
  obtain ⟨okT, cT⟩ := okt LE (t := 0) (by omega)
  have ok0 : okA sh n 68 103 0 = true := okT 68 103 rfl (by omega)
  rw [lt_t, si_3, LE.2.2 62 17 68 rfl, lnk_s, ok0, grd_true, show (0 : Int32).toNatClampNeg = 0 from rfl, si_ok (show (68 : Nat) ≠ 62 by omega), r68 0 h1]
  cases g : tgOf U f 0 with
  | false =>
    rw [if_pos (show bI false = 0 from rfl)]
    refine ⟨_, rfl, ⟨⟨_, kF⟩, fun t ht => ⟨(PF t ht).1, fun tq => ?_⟩, true, si_ss, fun _ => ?_⟩, fun k hk => dE k hk, fE.trans fF, by rw [si_oj (by omega)]; exact i0⟩
    · have t0 : t ≠ 0 := fun e => by rw [e, g] at tq; cases tq
      unfold R0
      rw [if_neg t0]
      exact (PF t ht).2 tq
    · have e0 : R0 U f 0 = some (Q0 U f) := if_pos rfl
      rw [e0]
      exact ⟨rfl, fun Q q => by cases q; exact kF⟩
  | true =>
    obtain ⟨zG, j1, j2, j3, j4⟩ := kF.join0 (F := F) PF (t := 0) (by omega) h1 g rfl
    have j1' : fn_X3_join F sh n (si zE 62 16 1) 62 0 = some (zG, ()) := j1
    have eR : setR (fun _ => none) 0 (CResourceLedgerLaw_law_r8937_d13e27.nrm (Q0 U f)) = R0 U f := by
      funext t
      unfold setR R0
      rw [nrmQ0]
    rw [if_neg (show ¬ bI true = 0 from one0), j1', cal_s]
    have j3' : RcC (codeOf U f).length zG (locOf U f).length (tgOf U f) (setR (fun _ => none) 0 (CResourceLedgerLaw_law_r8937_d13e27.nrm (Q0 U f))) := j3
    rw [eR] at j3'
    refine ⟨zG, rfl, ⟨⟨_, j2⟩, j3', true, by rw [j4.2.2.1 16 (by omega), si_ss]; rfl, fun tf => by rw [g] at tf; cases tf⟩, (DrO.s (z := si zE 62 16 1) (fun k hk => dE k hk) j4.s), (fE.trans fF).trans j4.s.a, by rw [j4.2.2.1 0 (by omega), si_oj (by omega)]; exact i0⟩
/-- all functions, one after the other -/
def lookA (U : Md) : Nat → Nat → Option (Nat × Nat × Nat)
  | 0, _ => none
  | r + 1, f => match vrd U f with
    | none => lookA U r (f + 1)
    | some q => some (q.1, f, q.2)
def LkV (z' : St) (v p0 : Int32) : Option (Nat × Nat × Nat) → Prop
  | none => v = 0 ∧ z'.1 62 0 = p0
  | some q => v = nI (30 + q.1) ∧ 0 < q.1 ∧ q.1 < 16 ∧ z'.1 62 0 = nI (1024 * q.2.1 + q.2.2)
/-- what looking asks of a module -/
def FnO (U : Md) (f : Nat) : Prop := (∀ k, k < (locOf U f).length → LsO U.1.2.2 ((locOf U f).getD k [])) ∧ (locOf U f).length ≤ 40 ∧ CdO U f ∧ 0 < (codeOf U f).length
theorem look17 {pl ab : Nat → Nat → Nat} (hF : 1100 ≤ F) (hu : ∀ z', FrA z z' → (z'.1 kp 11 = nI (fsOf U) ∧ okO sh n kp 5 = true) ∧ ∀ f, f < fsOf U → CnA F sh n z' kp U f (pl f) (ab f) ∧ CnB F sh n z' kp U f) (hm : MdO U) (hff : fsOf U ≤ faOf U) (h64 : fsOf U ≤ 64) (ho : ∀ f, f < fsOf U → FnO U f) : ∀ r f g z1, f + r = fsOf U → r < g → Lay sh n z1 → z1.2.2 62 2 = some kp → z1.1 62 1 = nI 0 → FrA z z1 → ∃ z' v, fn_X3_look_L17 F sh n 62 g z1 (nI f) = some (z', v) ∧ LkV z' v (z1.1 62 0) (lookA U r f) ∧ FrA z1 z' := by
  intro r
  induction r with
  | zero =>
    intro f g z1 ef hg L1 l2 e1 fz
    obtain ⟨g, rfl⟩ : ∃ q, g = q + 1 := ⟨g - 1, by omega⟩
    obtain ⟨⟨u1, u2⟩, _⟩ := hu z1 fz
    conv => enter [1, z', 1, v, 1, 1]; unfold fn_X3_look_L17
    rw [l2, lnk_s, u2, grd_true, u1, if_pos ((nI_leI (by omega) (by omega)).mpr (by omega))]
    exact ⟨z1, 0, rfl, ⟨rfl, rfl⟩, FrA.rfl'⟩
  | succ r ih =>
    intro f g z1 ef hg L1 l2 e1 fz
    obtain ⟨g, rfl⟩ : ∃ q, g = q + 1 := ⟨g - 1, by omega⟩
    obtain ⟨⟨u1, u2⟩, _⟩ := hu z1 fz
    have hf : f < fsOf U := by omega
    obtain ⟨o1, o2, o3, o4⟩ := ho f hf
    obtain ⟨z2, q1, q2, q3, q4, q5⟩ := prepC (F := F) (f := f) (pl := pl f) (ab := ab f) hF L1 l2 e1 (fun z' q => (hu z' (fz.trans q)).2 f hf) hm (by omega) o1 o2 o3 o4
    have A0 := AI.start (U := U) (f := f) (tg := tgOf U f) (hm.2.2.2.2 f (by omega)).2.1
    have len := o3.1
    obtain ⟨z3, s1, s2⟩ := look38 (F := F) (sh := sh) (n := n) (z := z1) (tg := tgOf U f) (pl := pl f) (ab := ab f) hF (fun z' q => ((hu z' (fz.trans q)).2 f hf).1) hm (by omega) o1 o2 o3 (fun i o x y q a b => tgOf_j q a b) (K := fun z9 q2 => fn_X3_look_L17 F sh n 62 g z9 q2) (codeOf U f).length 0 F (si z2 62 4 0) S0 (R0 U f) (by omega) (by omega) (q2.s4 0) A0 (fun k hk => q3 k hk) si_ss (q4.trans FrA.si)
    have f3 : FrA z1 z3 := (q4.trans FrA.si).trans s1
    have e0 : (si z2 62 4 0).1 62 0 = z1.1 62 0 := by rw [si_oj (by omega)]; exact q5
    conv => enter [1, z', 1, v, 1, 1]; unfold fn_X3_look_L17
    rw [l2, lnk_s, u2, grd_true, u1, if_neg (fun q => by have := (nI_leI (by omega) (by omega)).mp q; omega), q1, cal_s, lt_t]
    have ev : aChk U f (tgOf U f) (codeOf U f).length 0 S0 (R0 U f) = vrd U f := rfl
    rw [ev, e0] at s2
    unfold lookA
    cases e : vrd U f with
    | none =>
      rw [e] at s2
      obtain ⟨t1, t2, t3⟩ := s2
      rw [t1]
      obtain ⟨z4, v, w1, w2, w3⟩ := ih (f + 1) g z3 (by omega) (by omega) t2.1 t2.2.1 t2.2.2.2.1.1 (fz.trans f3)
      rw [t3] at w2
      exact ⟨z4, v, w1, w2, f3.trans w3⟩
    | some q =>
      rw [e] at s2
      obtain ⟨t1, t2, t3, t4⟩ := s2
      rw [t1]
      exact ⟨z3, _, rfl, ⟨rfl, t2, t3, t4⟩, f3⟩
theorem lookC {pl ab : Nat → Nat → Nat} (hF : 1100 ≤ F) (hL : Lay sh n z) (hu : ∀ z', FrA (sq z 62 2 (some kp)) z' → (z'.1 kp 11 = nI (fsOf U) ∧ okO sh n kp 5 = true) ∧ ∀ f, f < fsOf U → CnA F sh n z' kp U f (pl f) (ab f) ∧ CnB F sh n z' kp U f) (hm : MdO U) (hff : fsOf U ≤ faOf U) (h64 : fsOf U ≤ 64) (ho : ∀ f, f < fsOf U → FnO U f) : ∃ z' v, fn_X3_look F sh n z 62 kp = some (z', v) ∧ LkV z' v 0 (lookA U (fsOf U) 0) ∧ FrA (sq z 62 2 (some kp)) z' := by
  have o3 : okO sh n 62 3 = true := lay_o hL 62 3 0 (by decide) rfl
  have fz : FrA (sq z 62 2 (some kp)) (si (si (sq z 62 2 (some kp)) 62 1 0) 62 0 0) := FrA.si.trans FrA.si
  have L1 : Lay sh n (si (si (sq z 62 2 (some kp)) 62 1 0) 62 0 0) := (hL.sq (by decide)).of rfl
  obtain ⟨z1, v, s1, s2, s3⟩ := look17 (F := F) hF hu hm hff h64 ho (fsOf U) 0 F (si (si (sq z 62 2 (some kp)) 62 1 0) 62 0 0) (by omega) (by omega) L1 (by rw [si_3, si_3]; unfold sq; simp) (by rw [si_oj (by omega), si_ss]; rfl) fz
  have s1' : fn_X3_look_L17 F sh n 62 F (si (si (sq z 62 2 (some kp)) 62 1 0) 62 0 0) 0 = some (z1, v) := s1
  rw [si_ss] at s2
  unfold fn_X3_look
  rw [o3, grd_true, lt_t, lt_t, lt_t, s1']
  exact ⟨z1, v, rfl, s2, fz.trans s3⟩
end
