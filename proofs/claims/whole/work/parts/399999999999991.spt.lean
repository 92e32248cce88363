/-! THE CLASS'S LOOKER: arriving and leaving -/
/-- what the class's program answers of a function's code -/
def CnI (F : Nat) (sh : Nat → Nat × Nat) (n : Nat) (z : St) (kp : Nat) (U : Md) (f : Nat) (pl ab : Nat → Nat) : Prop := fn_X5_instructions F sh n z kp (nI f) = some (z, nI (codeOf U f).length) ∧ ∀ i o x y, (codeOf U f)[i]? = some (o, x, y) → fn_X5_instructionPlace F sh n z kp (nI f) (nI i) = some (z, nI (pl i)) ∧ CIn F sh n z kp (pl i) o (ab i) x y
/-- before instruction i -/
def NxC (ln : Nat) (sh : Nat → Nat × Nat) (n : Nat) (z : St) (kp f : Nat) (ls : List Ty) (ns : Nat) (tg : Nat → Bool) (i : Nat) (S : Nat × (Nat → SS)) (R : Nat → Option Lc) : Prop := (∃ C, CK sh n z kp f ls ns (S, C)) ∧ RcC ln z ls.length tg R ∧ ∃ fl, z.1 62 16 = bI fl ∧ (tg i = false → fl = (R i).isSome ∧ ∀ Q, R i = some Q → CK sh n z kp f ls ns (S, Q))
def LvC (ln : Nat) (sh : Nat → Nat × Nat) (n : Nat) (z : St) (kp f : Nat) (ls : List Ty) (ns : Nat) (tg : Nat → Bool) (i : Nat) : Px ((Nat × (Nat → SS)) × (Nat → Option Lc)) → Prop
  | .ok q => NxC ln sh n z kp f ls ns tg i q.1 q.2
  | .error w => 0 < w ∧ CB sh n z kp f w
section
variable {F n : Nat} {sh : Nat → Nat × Nat} {z z' : St} {kp f w ns : Nat} {ls : List Ty} {L M : Lks} {U : Md} {R : Nat → Option Lc} {tg : Nat → Bool} {ln : Nat} {S : Nat × (Nat → SS)}
theorem FrS.si {z : St} {j : Nat} {v : Int32} (h : j ≠ 4 ∧ j ≠ 0) : FrS z (si z 62 j v) := ⟨rfl, fun k hk => ⟨by funext l; rw [si_ok (by omega)], rfl⟩, rfl, by rw [si_oj (by omega)], by rw [si_oj (by omega)]⟩
theorem CK.s16 (h : CK sh n z kp f ls ns L) (v : Int32) : CK sh n (si z 62 16 v) kp f ls ns L := by
  obtain ⟨a1, a2, a3, a4, ⟨b1, b2, b3⟩, ⟨c0, c1⟩, c2, c3⟩ := h
  exact ⟨a1.of rfl, a2, by rw [si_oj (by omega)]; exact a3, by rw [si_oj (by omega)]; exact a4, ⟨by rw [si_oj (by omega)]; exact b1, b2, fun k hk => by rw [si_ok (by omega)]; exact b3 k hk⟩, ⟨c0, c1⟩, c2, c3⟩
theorem CB.s16 (h : CB sh n z kp f w) (v : Int32) : CB sh n (si z 62 16 v) kp f w := by
  obtain ⟨a1, a2, a3, a4, d, a5, a6, a7⟩ := h
  exact ⟨a1.of rfl, a2, by rw [si_oj (by omega)]; exact a3, ⟨by rw [si_oj (by omega)]; exact a4.1, a4.2⟩, d, by rw [si_oj (by omega)]; exact a5, a6, fun k hk => by rw [si_ok (by omega)]; exact a7 k hk⟩
theorem CK.s8 (h : CK sh n z kp f ls ns L) : CK sh n (si z 62 8 0) kp f ls ns ((0, L.1.2), L.2) := by
  obtain ⟨a1, a2, a3, a4, ⟨b1, b2, b3⟩, ⟨c0, c1⟩, c2, c3⟩ := h
  exact ⟨a1.of rfl, a2, by rw [si_oj (by omega)]; exact a3, by rw [si_oj (by omega)]; exact a4, ⟨by rw [si_ss]; rfl, by show 0 ≤ 64; omega, fun k hk => absurd (show k < 0 from hk) (by omega)⟩, ⟨c0, c1⟩, c2, c3⟩
theorem CB.s8 (h : CB sh n z kp f w) : CB sh n (si z 62 8 0) kp f w := by
  obtain ⟨a1, a2, a3, a4, d, a5, a6, a7⟩ := h
  exact ⟨a1.of rfl, a2, by rw [si_oj (by omega)]; exact a3, ⟨by rw [si_oj (by omega)]; exact a4.1, a4.2⟩, 0, by rw [si_ss]; rfl, by omega, fun k hk => absurd hk (by omega)⟩
theorem CK.nrm (h : CK sh n z kp f ls ns L) : CK sh n z kp f ls ns (L.1, nrm L.2) := by
  obtain ⟨a1, a2, a3, a4, b, c, c2, c3⟩ := h
  refine ⟨a1, a2, a3, a4, b, c, fun k => ?_, fun k hk => ?_⟩
  · obtain ⟨d1, d2⟩ := c2 k
    refine ⟨d1, d2.trans ?_⟩
    show _ = (decide (k < ls.length) && L.2.1 k && (L.2.1 k && L.2.2.2 k))
    cases L.2.1 k <;> cases L.2.2.2 k <;> cases decide (k < ls.length) <;> rfl
  · rw [c3 k hk]
    show _ = if (decide (k < ls.length) && L.2.1 k) = true then (if L.2.1 k then L.2.2.1 k else 0) else 0
    by_cases d : (decide (k < ls.length) && L.2.1 k) = true
    · have d2 : L.2.1 k = true := by rw [Bool.and_eq_true] at d; exact d.2
      rw [if_pos d, if_pos d, d2]; rfl
    · rw [if_neg d, if_neg d]
theorem RcC.set (P : RcC ln z ls.length tg R) {t : Nat} (ht : tg t = false) (Q : Lc) : RcC ln z ls.length tg (setR R t Q) := by
  intro t' h'
  obtain ⟨p1, p2⟩ := P t' h'
  refine ⟨p1, fun q => ?_⟩
  have : t' ≠ t := fun e => by rw [e, ht] at q; cases q
  unfold setR
  rw [if_neg this]
  exact p2 q
/-- the end of leaving, with no fault so far -/
theorem CK.lv37 (hF : 300 ≤ F) (h : CK sh n z kp f ls ns L) (hd : DrO z U ls) {len : Nat} (P : RcC len z ls.length tg R) {i : Nat} (hN : RN tg i R) (hI : ∀ z', FrS z z' → okO sh n kp 5 = true ∧ fn_X5_instructions F sh n z' kp (nI f) = some (z', nI len)) (e4 : z.1 62 4 = nI i) (hi : i < len) (hl : len ≤ 1024) (fl : Bool) : ∃ z', fn_X3_leave_B37 F sh n 62 z (bI fl) = some (z', ()) ∧ LvC len sh n z' kp f ls ns tg (i + 1) (if fl = false then .ok ((0, L.1.2), R) else nd_ (decide (i + 1 < len)) 11 >>= fun _ => aCome U ls i (i + 1) L.2 R >>= fun R => .ok (L.1, R)) ∧ FrS z z' := by
  have oz : okZ (bI fl) = true := by cases fl <;> rfl
  have f1 : FrS z (si z 62 16 (bI fl)) := FrS.si (by omega)
  have k1 := h.s16 (bI fl)
  have P1 := P.si62 16 (bI fl)
  unfold fn_X3_leave_B37
  rw [h.cb.o3, grd_true, oz, grd_true, lt_t, si_ss]
  cases fl with
  | false =>
    rw [if_pos (show bI false = 0 from rfl), lt_t, if_pos rfl]
    refine ⟨_, rfl, ⟨⟨L.2, k1.s8⟩, P1.si62 8 0, false, ?_, fun tf => ?_⟩, f1.trans (FrS.si (by omega))⟩
    · rw [si_oj (by omega), si_ss]
    · have := hN (i + 1) (by omega) tf
      refine ⟨by show false = (R (i + 1)).isSome; rw [this]; rfl, fun Q q => ?_⟩
      have q' : R (i + 1) = some Q := q
      rw [this] at q'; cases q'
  | true =>
    obtain ⟨o5, ei⟩ := hI _ f1
    rw [if_neg (show ¬ bI true = 0 from one0), k1.2.1, lnk_s, o5, grd_true, k1.2.2.1, ei, cal_s, si_oj (show (4 : Nat) ≠ 16 by omega), e4, nI_1, if_neg (show ¬ true = false by simp)]
    by_cases c : i + 1 < len
    · rw [if_pos ((nI_ltI (by omega) (by omega)).mpr c), decide_eq_true c, nd_t, ok_b]
      obtain ⟨c1, c2⟩ := k1.come (F := F) (U := U) hF (hd.s f1) P1 (i := i) (t := i + 1) (by rw [si_oj (by omega)]; exact e4) (by omega) (by omega) (by omega) (fun q => by omega)
      cases g : tg (i + 1) with
      | false =>
        rw [c1 g, cal_s]
        have er := hN (i + 1) (by omega) g
        have ea : aCome U ls i (i + 1) L.2 R = .ok (setR R (i + 1) (CResourceLedgerLaw_law_r8937_d13e27.nrm L.2)) := by
          unfold aCome; rw [er]
        rw [ea, ok_b]
        refine ⟨_, rfl, ⟨⟨L.2, k1⟩, P1.set g _, true, si_ss, fun _ => ?_⟩, f1⟩
        show true = (setR R (i + 1) (CResourceLedgerLaw_law_r8937_d13e27.nrm L.2) (i + 1)).isSome ∧ ∀ Q, setR R (i + 1) (CResourceLedgerLaw_law_r8937_d13e27.nrm L.2) (i + 1) = some Q → _
        have es : setR R (i + 1) (CResourceLedgerLaw_law_r8937_d13e27.nrm L.2) (i + 1) = some (CResourceLedgerLaw_law_r8937_d13e27.nrm L.2) := by unfold setR; rw [if_pos rfl]
        rw [es]
        exact ⟨rfl, fun Q q => by cases q; exact k1.nrm⟩
      | true =>
        obtain ⟨z2, q1, q2, q3⟩ := c2 g
        rw [q1, cal_s]
        refine ⟨z2, rfl, ?_, f1.trans q3.s⟩
        cases er : aCome U ls i (i + 1) L.2 R with
        | error w => rw [er] at q2; exact q2
        | ok R' =>
          rw [er] at q2
          refine ⟨⟨L.2, q2.1⟩, q2.2, true, by rw [q3.2.2.1 16 (by omega), si_ss], fun tf => ?_⟩
          rw [g] at tf; cases tf
    · obtain ⟨z2, q1, q2, q3⟩ := CB.failJ (F := F) k1.cb (v := 11) (by omega)
      have q1' : fn_X3_fail F sh n (si z 62 16 (bI true)) 62 11 = some (z2, ()) := q1
      rw [if_neg (fun q => c ((nI_ltI (by omega) (by omega)).mp q)), decide_eq_false c, q1', cal_s]
      exact ⟨z2, rfl, ⟨by decide, q2⟩, f1.trans q3.s⟩
theorem CB.lv37 (hF : 300 ≤ F) (h : CB sh n z kp f w) (hw : 0 < w) {i len : Nat} (hI : ∀ z', FrS z z' → okO sh n kp 5 = true ∧ fn_X5_instructions F sh n z' kp (nI f) = some (z', nI len)) (e4 : z.1 62 4 = nI i) (hi : i < len) (hl : len ≤ 1024) (fl : Bool) : ∃ z', fn_X3_leave_B37 F sh n 62 z (bI fl) = some (z', ()) ∧ CB sh n z' kp f w ∧ FrS z z' := by
  have oz : okZ (bI fl) = true := by cases fl <;> rfl
  have f1 : FrS z (si z 62 16 (bI fl)) := FrS.si (by omega)
  have k1 := h.s16 (bI fl)
  unfold fn_X3_leave_B37
  rw [h.o3, grd_true, oz, grd_true, lt_t, si_ss]
  cases fl with
  | false =>
    rw [if_pos (show bI false = 0 from rfl), lt_t]
    exact ⟨_, rfl, k1.s8, f1.trans (FrS.si (by omega))⟩
  | true =>
    obtain ⟨o5, ei⟩ := hI _ f1
    obtain ⟨z2, q1, q2, q3⟩ := k1.come_e (F := F) hF hw (i := i) (t := i + 1) (by rw [si_oj (by omega)]; exact e4) (by omega) (by omega) (by omega)
    rw [if_neg (show ¬ bI true = 0 from one0), k1.2.1, lnk_s, o5, grd_true, k1.2.2.1, ei, cal_s, si_oj (show (4 : Nat) ≠ 16 by omega), e4, nI_1, q1, cal_s, k1.fail_e hw, cal_s]
    by_cases c : nI (i + 1) < nI len
    · rw [if_pos c]; exact ⟨z2, rfl, q2, f1.trans q3.s⟩
    · rw [if_neg c]; exact ⟨_, rfl, k1, f1⟩
theorem lv15 (X : St) {o : Nat} (ho : o < 100) : fn_X3_leave_B15 F sh n (nI o) 62 X = fn_X3_leave_B37 F sh n 62 X (bI (!decide (o = 1 ∨ o = 2 ∨ o = 45))) := by
  have E : ∀ (m : Nat) (x : Int32), x = nI m → m < 100 → (nI o = x ↔ o = m) := fun m x e hm => nIe m e (by omega) (by omega)
  unfold fn_X3_leave_B15 fn_X3_leave_B36
  by_cases c1 : o = 1
  · rw [if_pos ((E 1 1 rfl (by omega)).mpr c1), decide_eq_true (.inl c1)]; rfl
  rw [if_neg (fun q => c1 ((E 1 1 rfl (by omega)).mp q))]
  by_cases c2 : o = 2
  · rw [if_pos ((E 2 2 rfl (by omega)).mpr c2), decide_eq_true (.inr (.inl c2))]; rfl
  rw [if_neg (fun q => c2 ((E 2 2 rfl (by omega)).mp q))]
  by_cases c3 : o = 45
  · rw [if_pos ((E 45 45 rfl (by omega)).mpr c3), decide_eq_true (.inr (.inr c3))]; rfl
  rw [if_neg (fun q => c3 ((E 45 45 rfl (by omega)).mp q)), decide_eq_false (by omega)]; rfl
theorem CK.leave (hF : 300 ≤ F) (h : CK sh n z kp f ls ns L) (hd : DrO z U ls) {len : Nat} (P : RcC len z ls.length tg R) {i o to : Nat} (hN : RN tg i R) (hI : ∀ z', FrS z z' → okO sh n kp 5 = true ∧ fn_X5_instructions F sh n z' kp (nI f) = some (z', nI len)) (e4 : z.1 62 4 = nI i) (hi : i < len) (hl : len ≤ 1024) (hb : ∀ t, t ≤ i → (R t).isSome = true) (ho : o < 100) {x1 : Int32} (hx : 2 ≤ o → o < 5 → x1 = nI to ∧ to < len ∧ tg to = true) : ∃ z', fn_X3_leave F sh n z 62 (nI o) x1 = some (z', ()) ∧ LvC len sh n z' kp f ls ns tg (i + 1) ((if 2 ≤ o ∧ o < 5 then aCome U ls i to L.2 R else .ok R) >>= fun R => if o = 1 ∨ o = 2 ∨ o = 45 then .ok ((0, L.1.2), R) else nd_ (decide (i + 1 < len)) 11 >>= fun _ => aCome U ls i (i + 1) L.2 R >>= fun R => .ok (L.1, R)) ∧ FrS z z' := by
  have rw1 : ∀ R : Nat → Option Lc, (if o = 1 ∨ o = 2 ∨ o = 45 then .ok ((0, L.1.2), R) else nd_ (decide (i + 1 < len)) 11 >>= fun _ => aCome U ls i (i + 1) L.2 R >>= fun R => .ok (L.1, R) : Px ((Nat × (Nat → SS)) × (Nat → Option Lc))) = (if (!decide (o = 1 ∨ o = 2 ∨ o = 45)) = false then .ok ((0, L.1.2), R) else nd_ (decide (i + 1 < len)) 11 >>= fun _ => aCome U ls i (i + 1) L.2 R >>= fun R => .ok (L.1, R)) := fun R => by
    by_cases c : o = 1 ∨ o = 2 ∨ o = 45
    · rw [if_pos c, decide_eq_true c, if_pos (show (!true) = false from rfl)]
    · rw [if_neg c, decide_eq_false c, if_neg (by simp)]
  simp only [rw1]
  unfold fn_X3_leave
  by_cases c : 2 ≤ o ∧ o < 5
  · obtain ⟨x2, x3, x4⟩ := hx c.1 c.2
    rw [if_neg (fun q => by have := (nIlt (x := 2) 2 rfl (by omega) (by omega)).mp q; omega), if_neg (fun q => by have := (nIgt (x := 4) 4 rfl (by omega) (by omega)).mp q; omega), h.cb.o3, grd_true, x2, if_pos c]
    obtain ⟨z1, q1, q2, q3⟩ := (h.come (F := F) (U := U) hF hd P e4 (by omega) (t := to) (by omega) x3 (hb to)).2 x4
    rw [q1, cal_s, lv15 z1 ho]
    have e4' : z1.1 62 4 = nI i := by rw [q3.2.2.1 4 (by omega)]; exact e4
    have hI' : ∀ z', FrS z1 z' → okO sh n kp 5 = true ∧ fn_X5_instructions F sh n z' kp (nI f) = some (z', nI len) := fun z' q => hI z' (q3.s.trans q)
    cases er : aCome U ls i to L.2 R with
    | error w =>
      rw [er] at q2
      obtain ⟨z2, s1, s2, s3⟩ := q2.2.lv37 (F := F) hF q2.1 hI' e4' hi hl (!decide (o = 1 ∨ o = 2 ∨ o = 45))
      exact ⟨z2, s1, ⟨q2.1, s2⟩, q3.s.trans s3⟩
    | ok R' =>
      rw [er] at q2
      have hN' : RN tg i R' := fun j hj ht => by
        have : j ≠ to := fun e => by rw [e, x4] at ht; cases ht
        rw [come_o er j this]; exact hN j hj ht
      obtain ⟨z2, s1, s2, s3⟩ := q2.1.lv37 (F := F) (U := U) hF (hd.s q3.s) q2.2 hN' hI' e4' hi hl (!decide (o = 1 ∨ o = 2 ∨ o = 45))
      rw [ok_b]
      exact ⟨z2, s1, s2, q3.s.trans s3⟩
  · have e15 : (if nI o < 2 then fn_X3_leave_B15 F sh n (nI o) 62 z else if (4 : Int32) < nI o then fn_X3_leave_B15 F sh n (nI o) 62 z else grd (okO sh n 62 3) (cal (fn_X3_come F sh n z 62 x1) (fun z_27 _ => fn_X3_leave_B15 F sh n (nI o) 62 z_27))) = fn_X3_leave_B15 F sh n (nI o) 62 z := by
      by_cases d : o < 2
      · rw [if_pos ((nIlt (x := 2) 2 rfl (by omega) (by omega)).mpr d)]
      · rw [if_neg (fun q => d ((nIlt (x := 2) 2 rfl (by omega) (by omega)).mp q)), if_pos ((nIgt (x := 4) 4 rfl (by omega) (by omega)).mpr (by omega))]
    rw [e15, lv15 z ho, if_neg c, ok_b]
    exact h.lv37 (F := F) (U := U) hF hd P hN hI e4 hi hl (!decide (o = 1 ∨ o = 2 ∨ o = 45))
/-- what is kept is loaded -/
theorem ar68 (hL : Lay sh n z) {i : Nat} (e4 : z.1 62 4 = nI i) (hi : i < 1024) : ∃ z', fn_X3_arrive_B68 F sh n 62 z = some (z', ()) ∧ z'.1 = z.1 ∧ z'.2.2 = z.2.2 ∧ (∀ k, k ≠ 62 → k ≠ 67 → z'.2.1 k = z.2.1 k) ∧ z'.2.1 62 12 = z.2.1 70 i ∧ z'.2.1 62 13 = z.2.1 71 i ∧ (∀ j, j ≠ 12 → j ≠ 13 → z'.2.1 62 j = z.2.1 62 j) ∧ ∀ k, k < 40 → z'.2.1 67 k = z.2.1 72 (40 * i + k) := by
  obtain ⟨okT, cT⟩ := okt hL hi
  have o67 : okO sh n 67 102 = true := lay_o hL 67 102 40 (by decide) rfl
  have o72 : okO sh n 72 102 = true := lay_o hL 72 102 40960 (by decide) rfl
  have s67 : (sh 67).2 = 40 := by rw [hL.2.1 67 (by omega)]; rfl
  have s72 : (sh 72).2 = 40960 := by rw [hL.2.1 72 (by omega)]; rfl
  have c40 : (nI (40 * i)).toNatClampNeg = 40 * i := nI_clamp (by omega)
  have oc : okC 40960 40 (nI (40 * i)) 0 40 = true := by
    unfold okC
    rw [c40, show (0 : Int32).toNatClampNeg = 0 from rfl, show (40 : Int32).toNatClampNeg = 40 from rfl, decide_eq_true (show (0 : Int) ≤ (0 : Int32).toInt from by decide), decide_eq_true (show (0 : Int) ≤ (40 : Int32).toInt from by decide), decide_eq_true (show 0 + 40 ≤ 40 by omega), decide_eq_true (show 40 * i + 40 ≤ 40960 by omega), decide_eq_true (show (0 : Int) ≤ (nI (40 * i)).toInt from by rw [nI_toInt (by omega)]; omega)]
    rfl
  unfold fn_X3_arrive_B68
  rw [hL.2.2 62 19 70 rfl, lnk_s, e4, okT 70 102 rfl (by omega), grd_true, lt_t, cT, sl_3, hL.2.2 62 20 71 rfl, lnk_s, sl_1, e4, okT 71 102 rfl (by omega), grd_true, lt_t, cT, sl_ok (show (71 : Nat) ≠ 62 by omega), sl_3, sl_3, hL.2.2 62 21 72 rfl, lnk_s, hL.2.2 62 10 67 rfl, lnk_s, o67, grd_true, o72, grd_true, s67, s72, sl_1, sl_1, e4, x40 hi, oc, grd_true, lt_t, c40, show (0 : Int32).toNatClampNeg = 0 from rfl, show (40 : Int32).toNatClampNeg = 40 from rfl]
  refine ⟨_, rfl, rfl, rfl, fun k h1 h2 => ?_, ?_, ?_, fun j h1 h2 => ?_, fun k hk => ?_⟩
  · funext j; rw [scl_o h2, sl_ok h1, sl_ok h1]
  · rw [scl_o (by omega), sl_oj (by omega), sl_ss]
  · rw [scl_o (by omega), sl_ss]
  · rw [scl_o (by omega), sl_oj h2, sl_oj h1]
  · rw [scl_k, if_pos (by omega), sl_ok (by omega), sl_ok (by omega), show 40 * i + (k - 0) = 40 * i + k by omega]
theorem NxC.arrive {i : Nat} (h : NxC ln sh n z kp f ls ns tg i S R) (e4 : z.1 62 4 = nI i) (hi : i < 1024) (hil : i < ln) : ∃ z', fn_X3_arrive F sh n z 62 = some (z', ()) ∧ CR sh n z' kp f ls ns (match R i with | none => .error 10 | some Q => nd_ (!tg i || S.1 == 0) 8 >>= fun _ => .ok (S, Q)) ∧ FrQc z z' := by
  obtain ⟨⟨C, k⟩, P, fl, e16, hf⟩ := h
  obtain ⟨okT, cT⟩ := okt k.1 hi
  obtain ⟨z1, q1, q2, q3⟩ := CB.fail (F := F) k.cb (v := 10) (by omega)
  have q1' : fn_X3_fail F sh n z 62 10 = some (z1, ()) := q1
  unfold fn_X3_arrive
  rw [k.cb.o3, grd_true, k.1.2.2 62 17 68 rfl, lnk_s, e4, okT 68 103 rfl (by omega), grd_true, cT, (P i hil).1, e16, q1', cal_s, k.1.2.2 62 18 69 rfl, lnk_s, okT 69 103 rfl (by omega), grd_true]
  cases g : tg i with
  | false =>
    obtain ⟨h1, h2⟩ := hf g
    rw [if_pos (show bI false = 0 from rfl), h1]
    cases er : R i with
    | none => rw [if_pos (show bI (none : Option Lc).isSome = 0 from rfl)]; exact ⟨z1, rfl, ⟨by omega, q2⟩, q3⟩
    | some Q =>
      rw [if_neg (show ¬ bI (some Q).isSome = 0 from one0)]
      unfold fn_X3_arrive_B43
      rw [k.1.2.2 62 17 68 rfl, lnk_s, e4, okT 68 103 rfl (by omega), grd_true, cT, (P i hil).1, g, if_pos (show bI false = 0 from rfl)]
      exact ⟨z, rfl, h2 Q er, FrQc.rfl'⟩
  | true =>
    obtain ⟨p1, p2⟩ := (P i hil).2 g
    rw [if_neg (show ¬ bI true = 0 from one0), p1]
    cases er : R i with
    | none => rw [if_pos (show bI (none : Option Lc).isSome = 0 from rfl)]; exact ⟨z1, rfl, ⟨by omega, q2⟩, q3⟩
    | some Q =>
      obtain ⟨m1, m2⟩ := p2 Q er
      rw [if_neg (show ¬ bI (some Q).isSome = 0 from one0)]
      unfold fn_X3_arrive_B43
      rw [k.1.2.2 62 17 68 rfl, lnk_s, e4, okT 68 103 rfl (by omega), grd_true, cT, (P i hil).1, g, if_neg (show ¬ bI true = 0 from one0)]
      have frq : ∀ z2 z3 : St, z3.1 = z2.1 → z3.2.2 = z2.2.2 → (∀ k, k ≠ 62 → k ≠ 67 → z3.2.1 k = z2.2.1 k) → (∀ j, j ≠ 12 → j ≠ 13 → z3.2.1 62 j = z2.2.1 62 j) → FrQc z2 z3 := fun z2 z3 a b c d => ⟨b, fun k p q => ⟨by rw [a], c k q (by omega)⟩, c 66 (by omega) (by omega), fun j _ _ _ => by rw [a], fun j p q _ => d j p q⟩
      have b64 := k.2.2.2.2.1.2.1
      have b64' : S.1 ≤ 64 := b64
      show ∃ z', _ ∧ CR sh n z' kp f ls ns (nd_ (!true || S.1 == 0) 8 >>= fun _ => .ok (S, Q)) ∧ _
      rw [Bool.not_true, Bool.false_or]
      have e8 : z.1 62 8 = nI S.1 := k.2.2.2.2.1.1
      by_cases c : S.1 = 0
      · obtain ⟨z3, s1, s2, s3, s4, s5, s6, s7, s8⟩ := ar68 (F := F) k.1 e4 hi
        rw [e8, if_pos ((nIle (x := 0) 0 rfl (by omega) (by omega)).mpr (by omega)), s1, beq_iff_eq.mpr c]
        refine ⟨z3, rfl, ?_, frq z z3 s2 s3 s4 s7⟩
        obtain ⟨a1, a2, a3, a4, ⟨b1, b2, b3⟩, ⟨c0, c1⟩, c2, c3⟩ := k
        refine ⟨a1.of s3, by rw [s3]; exact a2, by rw [s2]; exact a3, by rw [s2]; exact a4, ⟨by rw [s2]; exact b1, b2, fun j hj => by rw [s4 63 (by omega) (by omega), s4 64 (by omega) (by omega), s2]; exact b3 j hj⟩, ⟨c0, fun j hj => by rw [s4 66 (by omega) (by omega)]; exact c1 j hj⟩, fun j => by rw [s5, s6]; exact m1 j, fun j hj => by rw [s8 j hj]; exact m2 j hj⟩
      · obtain ⟨z2, t1, t2, t3⟩ := CB.fail (F := F) k.cb (v := 8) (by omega)
        have t1' : fn_X3_fail F sh n z 62 8 = some (z2, ()) := t1
        obtain ⟨z3, s1, s2, s3, s4, s5, s6, s7, s8⟩ := ar68 (F := F) (z := z2) t2.1 (i := i) (by rw [t3.2.2.2.1 4 (by omega) (by omega) (by omega)]; exact e4) hi
        have f3 := frq z2 z3 s2 s3 s4 s7
        rw [e8, if_neg (fun q => by have := (nIle (x := 0) 0 rfl (by omega) (by omega)).mp q; omega), t1', cal_s, s1, beq_eq_false_iff_ne.mpr c]
        refine ⟨z3, rfl, ⟨by decide, ?_⟩, t3.trans f3⟩
        obtain ⟨a1, a2, a3, a4, d, a5, a6, a7⟩ := t2
        exact ⟨a1.of s3, by rw [s3]; exact a2, by rw [s2]; exact a3, ⟨by rw [s2]; exact a4.1, a4.2⟩, d, by rw [s2]; exact a5, a6, fun j hj => by rw [s2]; exact a7 j hj⟩
end
