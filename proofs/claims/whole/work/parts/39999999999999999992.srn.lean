/-! THE CLASS'S READER: an instruction -/
def HJ (z : St) (kp : Nat) (Jo : Option JI) (loc many : Nat) : Prop := z.1 60 6 = nI loc ∧ loc < 2 ^ 20 ∧ z.1 60 7 = nI many ∧ many < 2 ^ 20 ∧ (∃ a, a ≤ 64 ∧ z.1 kp 9 = nI a) ∧ ∀ j, Jo = some j → z.1 kp 8 = nI j.1 ∧ z.1 kp 9 = nI j.2.1 ∧ j.1 ≤ 32 ∧ j.1 ≤ j.2.1 ∧ j.2.1 ≤ 64 ∧ (∀ s, s < j.1 → z.1 (kp + 3) (7 * s + 3) = nI (j.2.2.1 s) ∧ j.2.2.1 s < 256) ∧ z.1 kp 11 + z.1 kp 12 = nI j.2.2.2.1 ∧ j.2.2.2.1 < 256 ∧ z.1 kp 14 = nI j.2.2.2.2 ∧ j.2.2.2.2 < 256
theorem cu_jd {α : Type} (Jo : Option JI) (e : JI → Flt) (a : α × Nat) : cu (jd Jo e (.ok a)) = cu (jd Jo e (.ok (((), a.2) : Unit × Nat))) := by
  cases Jo with
  | none => rfl
  | some j => rw [jd_s, jd_s]; cases e j <;> rfl
section
variable {F n : Nat} {sh : Nat → Nat × Nat} {z z' : St} {kp kb len : Nat} {b : Nat → Nat} {J : Bool} {r : Ex Nat} {ks js hs : List Nat} {Jo : Option JI} {loc many : Nat}
theorem HJ.fr (h : HJ z kp Jo loc many) (hk : 15 ≤ kp ∧ kp + 4 < 60) (f : FrKd kp ks js hs z z') (h1 : kp + 3 ∉ ks) (h2 : 8 ∉ js ∧ 9 ∉ js ∧ 11 ∉ js ∧ 12 ∉ js ∧ 14 ∉ js) (h3 : 6 ∉ hs ∧ 7 ∉ hs) : HJ z' kp Jo loc many := by
  obtain ⟨a1, a2, a3, a4, a5, a6⟩ := h
  unfold HJ
  rw [f.2.2.2.2 6 h3.1, f.2.2.2.2 7 h3.2, f.2.2.2.1 9 h2.2.1, f.2.2.2.1 8 h2.1, f.2.2.2.1 11 h2.2.2.1, f.2.2.2.1 12 h2.2.2.2.1, f.2.2.2.1 14 h2.2.2.2.2, f.2.1 (kp + 3) (by omega) (by omega) h1]
  exact ⟨a1, a2, a3, a4, a5, a6⟩
theorem SrT.fr {S : List Nat} (T : SrT z kp S) (hk : 15 ≤ kp ∧ kp + 4 < 60) (f : FrKd kp ks js hs z z') (h1 : kp + 2 ∉ ks) (h2 : 6 ∉ js) : SrT z' kp S := by
  unfold SrT
  rw [f.2.2.2.1 6 h2, f.2.1 (kp + 2) (by omega) (by omega) h1]
  exact T
theorem KX.ow1 (h : KX sh n z kp kb b len J r) (ej : Jo.isSome = J) (hJ : HJ z kp Jo loc many) : ∃ z', cal (fn_X6_readOwnStructure F sh n z 60) (fun z_29 r_30 => some (z_29, ())) = some (z', ()) ∧ KX sh n z' kp kb b len J (cu (r >>= fun p => gOwn b len Jo p >>= fun a => .ok ((), a.2))) ∧ FC kp z z' := by
  obtain ⟨z1, q1, q2, q3⟩ := h.own (F := F) ej (fun j e => by obtain ⟨a1, a2, a3, a4, a5, a6⟩ := hJ; have := a6 j e; exact ⟨this.1, this.2.1, by omega, by omega⟩)
  rw [q1, cal_s]
  refine ⟨z1, rfl, ?_, q3⟩
  cases r with
  | error e => exact q2
  | ok p =>
    rw [ok_bq] at q2 ⊢
    cases e : gOwn b len Jo p with
    | error w => rw [e] at q2; exact q2
    | ok a => rw [e] at q2; exact q2
theorem KX.b173 {p : Nat} (h : KX sh n z kp kb b len J (.ok p)) (ej : Jo.isSome = J) (hJ : HJ z kp Jo loc many) : ∃ z', fn_X6_readInstruction_B173 F sh n 60 z = some (z', ()) ∧ KX sh n z' kp kb b len J (cu (gOwn b len Jo p >>= fun a => rBy b len a.2 >>= fun c => jd Jo (fun j => if j.2.2.1 a.1 ≤ c.1 then some (9, a.2) else none) (.ok (((), c.2) : Unit × Nat)))) ∧ FC kp z z' := by
  have hk := isP_ne h.1.2.1
  obtain ⟨a1, a2, a3, a4, ⟨al, a5, a5'⟩, a6⟩ := hJ
  obtain ⟨z1, q1, q2, q3⟩ := h.own (F := F) ej (fun j e => by have := a6 j e; exact ⟨this.1, this.2.1, by omega, by omega⟩)
  have l1 := vN_lt h
  rw [ok_bq] at q1 q2 l1
  unfold fn_X6_readInstruction_B173
  have fc := q2.1.fieldCount (F := F) (a := al) (s := vN (rBy b len p)) (by rw [q3.2.2.2.1 9 (by simp)]; exact a5') a5 l1
  rw [q1, cal_s, q2.1.2.2.1, lnk_s, q2.1.p, grd_true, fc, cal_s]
  cases e : gOwn b len Jo p with
  | error w =>
    rw [e] at q2
    have q2' : KX sh n z1 kp kb b len J (.error w) := q2
    obtain ⟨z2, s1, s2, s3⟩ := q2'.judged (F := F) ej (bd := fun _ => 0) (w := 9) (x0 := if vN (rBy b len p) < al then z1.1 (kp + 3) (7 * vN (rBy b len p) + 3) else 0) (x1 := 9) (fun j p _ y => by cases y) rfl (by omega) (by omega)
    rw [s1, cal_s]
    exact ⟨z2, rfl, s2, q3.trans s3⟩
  | ok a =>
    have ea : a.1 = b p ∧ rBy b len p = .ok (b p, p + 1) ∧ ∀ j, Jo = some j → b p < j.1 := by
      unfold gOwn at e
      obtain ⟨c, f1, f2⟩ := bq_ok e
      obtain ⟨_, ec⟩ := rBy_ok f1
      subst ec
      cases Jo with
      | none => cases f2; exact ⟨rfl, f1, fun j y => by cases y⟩
      | some j =>
        rw [jd_s] at f2
        cases ejo : jOwn b j.1 j.2.1 p with
        | some w => rw [ejo] at f2; cases f2
        | none =>
          rw [ejo] at f2
          cases f2
          exact ⟨rfl, f1, fun j' y => by cases y; exact jOwn_n ejo⟩
    obtain ⟨ea1, ea2, ea3⟩ := ea
    rw [e] at q2
    have q2' : KX sh n z1 kp kb b len J (.ok a.2) := q2
    have hb : ∀ j p', Jo = some j → (Except.ok a.2 : Ex Nat) = .ok p' → (if vN (rBy b len p) < al then z1.1 (kp + 3) (7 * vN (rBy b len p) + 3) else 0) = nI (j.2.2.1 a.1) ∧ j.2.2.1 a.1 < 2 ^ 20 := fun j p' y _ => by
      obtain ⟨d1, d2, d3, d4, d5, d6, _⟩ := a6 j y
      have bl := ea3 j y
      rw [ea2]
      show (if b p < al then z1.1 (kp + 3) (7 * b p + 3) else 0) = _ ∧ _
      have : al = j.2.1 := (nI_eq (by omega) (by omega)).mp (a5'.symm.trans d2)
      rw [if_pos (by omega), q3.2.1 (kp + 3) (by omega) (by omega) (by simp), ea1]
      have := d6 (b p) bl
      exact ⟨this.1, by omega⟩
    obtain ⟨z2, s1, s2, s3⟩ := q2'.judged (F := F) ej (bd := fun j => j.2.2.1 a.1) (w := 9) (x1 := 9) hb rfl (by omega) (by omega)
    rw [s1, cal_s]
    refine ⟨z2, rfl, ?_, q3.trans s3⟩
    rw [ok_bq] at s2 ⊢
    cases e2 : rBy b len a.2 with
    | error w => rw [e2] at s2; exact s2
    | ok c =>
      rw [e2, ok_bq, cu_jd] at s2
      rw [ok_bq]; exact s2
theorem KX.b228 {p o : Nat} (h : KX sh n z kp kb b len J (.ok p)) (ej : Jo.isSome = J) (hJ : HJ z kp Jo loc many) (ho : o < 60) (h1 : ¬ (1 < o ∧ o < 5)) (h2 : ¬ (4 < o ∧ o < 11)) (h3 : ¬ (10 < o ∧ o < 16)) (h4 : ¬ (o = 16 ∨ o = 17)) (h5 : ¬ (o = 21 ∨ o = 22 ∨ (46 < o ∧ o < 52))) : ∃ z', fn_X6_readInstruction_B228 F sh n (nI o) 60 z = some (z', ()) ∧ KX sh n z' kp kb b len J (cu (if o = 23 then rBy b len p >>= fun a => jd Jo (fun j => if j.2.2.2.1 ≤ a.1 then some (11, p) else none) (.ok (((), a.2) : Unit × Nat)) else if 51 < o ∧ o < 59 then rBy b len p >>= fun a => jd Jo (fun j => if j.2.2.2.2 ≤ a.1 then some (12, p) else none) (.ok (((), a.2) : Unit × Nat)) >>= fun c => if o = 52 then rN b len 0 64 c.2 >>= fun d => .ok ((), d.2) else .ok ((), c.2) else .ok ((), p))) ∧ FC kp z z' := by
  obtain ⟨a1, a2, a3, a4, a5, a6⟩ := hJ
  unfold fn_X6_readInstruction_B228
  rw [h.1.2.2.1, lnk_s, h.1.p, grd_true, lnk_s, h.1.p, grd_true, lnk_s, h.1.p, grd_true]
  by_cases c6 : o = 23
  · obtain ⟨z1, q1, q2, q3⟩ := h.judged (F := F) ej (bd := fun j => j.2.2.2.1) (w := 11) (x0 := z.1 kp 11 + z.1 kp 12) (x1 := 11) (fun j p e _ => by obtain ⟨d1, d2, d3, d4, d5, d6, d7, d8, d9⟩ := a6 j e; exact ⟨d7, by omega⟩) rfl (by omega) (by omega)
    rw [if_pos ((nIe (x := 23) 23 rfl (by omega) (by omega)).mpr c6), q1, cal_s, if_pos c6]
    refine ⟨z1, rfl, ?_, q3⟩
    rw [ok_bq] at q2
    cases e2 : rBy b len p with
    | error w => rw [e2] at q2; exact q2
    | ok c =>
      rw [e2, ok_bq, cu_jd] at q2
      rw [ok_bq]; exact q2
  rw [if_neg (fun y => c6 ((nIe (x := 23) 23 rfl (by omega) (by omega)).mp y)), if_neg c6]
  by_cases c7 : 51 < o ∧ o < 59
  · obtain ⟨z1, q1, q2, q3⟩ := h.judged (F := F) ej (bd := fun j => j.2.2.2.2) (w := 12) (x0 := z.1 kp 14) (x1 := 12) (fun j p e _ => by obtain ⟨d1, d2, d3, d4, d5, d6, d7, d8, d9, d10⟩ := a6 j e; exact ⟨d9, by omega⟩) rfl (by omega) (by omega)
    rw [if_neg (fun y => by have := (nIlt (x := 52) 52 rfl (by omega) (by omega)).mp y; omega), if_neg (fun y => by have := (nIgt (x := 58) 58 rfl (by omega) (by omega)).mp y; omega), q1, cal_s, if_pos c7]
    rw [ok_bq] at q2
    have q2' : KX sh n z1 kp kb b len J (cu (rBy b len p >>= fun a => jd Jo (fun j => if j.2.2.2.2 ≤ a.1 then some (12, p) else none) (.ok (((), a.2) : Unit × Nat)))) := by
      cases e2 : rBy b len p with
      | error w => rw [e2] at q2; exact q2
      | ok c =>
        rw [e2, ok_bq, cu_jd] at q2
        rw [ok_bq]; exact q2
    by_cases c8 : o = 52
    · obtain ⟨z2, s1, s2, s3⟩ := q2'.number (F := F) (lo := 0) (hi := 64) (il := 0) (ih := 64) rfl rfl (by omega) (by omega)
      rw [if_pos ((nIe (x := 52) 52 rfl (by omega) (by omega)).mpr c8), s1, cal_s]
      refine ⟨z2, rfl, ?_, q3.trans s3⟩
      simp only [if_pos c8]
      cases e2 : rBy b len p with
      | error w => rw [e2] at s2; exact s2
      | ok c =>
        rw [e2, ok_bq] at s2
        rw [ok_bq]
        cases e3 : jd Jo (fun j => if j.2.2.2.2 ≤ c.1 then some (12, p) else none) (.ok (((), c.2) : Unit × Nat)) with
        | error w => rw [e3] at s2; exact s2
        | ok d =>
          rw [e3] at s2
          rw [ok_bq]
          have s2' : KX sh n z2 kp kb b len J (cu (rN b len 0 64 d.2)) := s2
          cases e4 : rN b len 0 64 d.2 with
          | error w => rw [e4] at s2'; exact s2'
          | ok x => rw [e4] at s2'; exact s2'
    · rw [if_neg (fun y => c8 ((nIe (x := 52) 52 rfl (by omega) (by omega)).mp y))]
      refine ⟨z1, rfl, ?_, q3⟩
      simp only [if_neg c8]
      cases e2 : rBy b len p with
      | error w => rw [e2] at q2'; exact q2'
      | ok c =>
        rw [e2, ok_bq] at q2'
        rw [ok_bq]
        cases e3 : jd Jo (fun j => if j.2.2.2.2 ≤ c.1 then some (12, p) else none) (.ok (((), c.2) : Unit × Nat)) with
        | error w => rw [e3] at q2'; exact q2'
        | ok d => rw [e3] at q2'; exact q2'
  · rw [if_neg c7]
    refine ⟨z, ?_, h, FrKd.rfl'⟩
    by_cases c9 : o < 52
    · rw [if_pos ((nIlt (x := 52) 52 rfl (by omega) (by omega)).mpr c9)]
    · rw [if_neg (fun y => c9 ((nIlt (x := 52) 52 rfl (by omega) (by omega)).mp y)), if_pos ((nIgt (x := 58) 58 rfl (by omega) (by omega)).mpr (by omega))]
theorem KX.b161 {p o : Nat} (h : KX sh n z kp kb b len J (.ok p)) (ej : Jo.isSome = J) (hJ : HJ z kp Jo loc many) (ho : o < 60) (h1 : ¬ (1 < o ∧ o < 5)) (h2 : ¬ (4 < o ∧ o < 11)) (h3 : ¬ (10 < o ∧ o < 16)) : ∃ z', fn_X6_readInstruction_B161 F sh n (nI o) 60 z = some (z', ()) ∧ KX sh n z' kp kb b len J (cu (if o = 16 ∨ o = 17 then gOwn b len Jo p >>= fun a => rBy b len a.2 >>= fun c => jd Jo (fun j => if j.2.2.1 a.1 ≤ c.1 then some (9, a.2) else none) (.ok (((), c.2) : Unit × Nat)) else if o = 21 ∨ o = 22 ∨ (46 < o ∧ o < 52) then gOwn b len Jo p >>= fun a => .ok ((), a.2) else if o = 23 then rBy b len p >>= fun a => jd Jo (fun j => if j.2.2.2.1 ≤ a.1 then some (11, p) else none) (.ok (((), a.2) : Unit × Nat)) else if 51 < o ∧ o < 59 then rBy b len p >>= fun a => jd Jo (fun j => if j.2.2.2.2 ≤ a.1 then some (12, p) else none) (.ok (((), a.2) : Unit × Nat)) >>= fun c => if o = 52 then rN b len 0 64 c.2 >>= fun d => .ok ((), d.2) else .ok ((), c.2) else .ok ((), p))) ∧ FC kp z z' := by
  have n16 : (nI o = 16) ↔ o = 16 := nIe 16 rfl (by omega) (by omega)
  have n17 : (nI o = 17) ↔ o = 17 := nIe 17 rfl (by omega) (by omega)
  have n21 : (nI o = 21) ↔ o = 21 := nIe 21 rfl (by omega) (by omega)
  have n22 : (nI o = 22) ↔ o = 22 := nIe 22 rfl (by omega) (by omega)
  have n47 : (nI o < 47) ↔ o < 47 := nIlt 47 rfl (by omega) (by omega)
  have n51 : (51 < nI o) ↔ 51 < o := nIgt 51 rfl (by omega) (by omega)
  unfold fn_X6_readInstruction_B161
  by_cases c4 : o = 16 ∨ o = 17
  · rw [if_pos c4]
    obtain ⟨z1, q1, q2, q3⟩ := h.b173 (F := F) ej hJ
    refine ⟨z1, ?_, q2, q3⟩
    by_cases d : o = 16
    · rw [if_pos (n16.mpr d)]; exact q1
    · rw [if_neg (fun y => d (n16.mp y)), if_pos (n17.mpr (by omega))]; exact q1
  rw [if_neg c4, if_neg (fun y => c4 (.inl (n16.mp y))), if_neg (fun y => c4 (.inr (n17.mp y)))]
  by_cases c5 : o = 21 ∨ o = 22 ∨ (46 < o ∧ o < 52)
  · rw [if_pos c5]
    obtain ⟨z1, q1, q2, q3⟩ := h.ow1 (F := F) ej hJ
    refine ⟨z1, ?_, q2, q3⟩
    by_cases d : o = 21
    · rw [if_pos (n21.mpr d)]; exact q1
    rw [if_neg (fun y => d (n21.mp y))]
    by_cases d2 : o = 22
    · rw [if_pos (n22.mpr d2)]; exact q1
    rw [if_neg (fun y => d2 (n22.mp y)), if_neg (fun y => by have := n47.mp y; omega), if_neg (fun y => by have := n51.mp y; omega)]
    exact q1
  rw [if_neg c5, if_neg (fun y => c5 (.inl (n21.mp y))), if_neg (fun y => c5 (.inr (.inl (n22.mp y))))]
  obtain ⟨z1, q1, q2, q3⟩ := h.b228 (F := F) ej hJ ho h1 h2 h3 c4 c5
  refine ⟨z1, ?_, q2, q3⟩
  by_cases d : o < 47
  · rw [if_pos (n47.mpr d)]; exact q1
  · rw [if_neg (fun y => d (n47.mp y)), if_pos (n51.mpr (by omega))]; exact q1
theorem op_ps : ∀ o, 4 < o → o < 11 → opB o = if o = 5 then 1 else if o = 7 then 16 else if o = 6 then 8 else if o = 10 then 8 else 0 := by
  intro o h1 h2
  have : ∀ o, o < 11 → 4 < o → opB o = if o = 5 then 1 else if o = 7 then 16 else if o = 6 then 8 else if o = 10 then 8 else 0 := by decide
  exact this o h2 h1
theorem KX.instr (hF : 300 ≤ F) {p : Nat} {S : List Nat} (h : KX sh n z kp kb b len J (.ok p)) (ej : Jo.isSome = J) (hJ : HJ z kp Jo loc many) (T : SrT z kp S) (hS : S.length < p) : ∃ z', fn_X6_readInstruction F sh n z 60 = some (z', ()) ∧ KX sh n z' kp kb b len J (cu (gI1 b len Jo loc many p)) ∧ SrT z' kp (S ++ [p]) ∧ FrKd kp [kp + 2] [6] [0, 1, 3] z z' := by
  have hk := isP_ne h.1.2.1
  have pl := h.2.2.1
  have l8 := h.1.2.2.2.2.2.2.1
  obtain ⟨z1, s1, s2, s3⟩ := h.1.addStart (F := F) T (by omega) p
  have k1 := h.fr s2 (by simp; omega) (by simp) (by simp)
  have j1 := hJ.fr ⟨hk.2, hk.1⟩ s2 (by simp) (by simp) (by simp)
  unfold fn_X6_readInstruction
  rw [h.1.o, grd_true, h.1.2.2.1, lnk_s, h.1.p, grd_true, h.2.1, s1, cal_s, lt_t]
  suffices g : ∃ z', cal (fn_X6_readByte F sh n z1 60) (fun z_7 r_8 => if (r_8 : Int32) ≤ 59 then if (r_8 : Int32) < 2 then fn_X6_readInstruction_B79 F sh n r_8 60 z_7 else if (4 : Int32) < r_8 then fn_X6_readInstruction_B79 F sh n r_8 60 z_7 else lt_ (z_7.1 60 3) (fun v_84 => cal (fn_X6_readShort F sh n z_7 60) (fun z_85 r_86 => if (r_86 : Int32) < (z_85.1 60 7) then some (z_85, ()) else if ((z_85.1 60 4) : Int32) = 0 then some (z_85, ()) else cal (fn_X6_fail F sh n z_85 60 13 v_84) (fun z_90 _ => some (z_90, ())))) else cal (fn_X6_fail F sh n z_7 60 5 (z1.1 60 3)) (fun z_92 _ => some (z_92, ()))) = some (z', ()) ∧ KX sh n z' kp kb b len J (cu (gI1 b len Jo loc many p)) ∧ FC kp z1 z' by
    obtain ⟨z', g1, g2, g3⟩ := g
    exact ⟨z', g1, g2, s3.fr ⟨hk.2, hk.1⟩ g3 (by simp) (by simp), (s2.mono (by simp) (by simp) (by simp)).trans (g3.g (by simp))⟩
  obtain ⟨z2, q1, q2, q3⟩ := k1.byte (F := F)
  have l1 := vN_lt k1
  have j2 := j1.fr ⟨hk.2, hk.1⟩ q3 (by simp) (by simp) (by simp)
  rw [ok_bq] at q1 q2 l1
  rw [q1, cal_s]
  unfold gI1
  cases e : rBy b len p with
  | error w =>
    rw [e] at q2
    have q2' : KX sh n z2 kp kb b len J (.error w) := q2
    show ∃ z', (if nI 0 ≤ 59 then if nI 0 < 2 then fn_X6_readInstruction_B79 F sh n (nI 0) 60 z2 else _ else _) = some (z', ()) ∧ KX sh n z' kp kb b len J (.error w) ∧ _
    rw [if_pos (show nI 0 ≤ 59 by decide), if_pos (show nI 0 < 2 by decide)]
    unfold fn_X6_readInstruction_B79 fn_X6_readInstruction_B135 fn_X6_readInstruction_B161 fn_X6_readInstruction_B228
    rw [if_pos (show nI 0 < 5 by decide), if_pos (show nI 0 < 11 by decide), if_neg (show ¬ nI 0 = 16 by decide), if_neg (show ¬ nI 0 = 17 by decide), if_neg (show ¬ nI 0 = 21 by decide), if_neg (show ¬ nI 0 = 22 by decide), if_pos (show nI 0 < 47 by decide), if_neg (show ¬ nI 0 = 23 by decide), if_pos (show nI 0 < 52 by decide)]
    exact ⟨z2, rfl, q2', q3⟩
  | ok q =>
    obtain ⟨c1, c2⟩ := rBy_ok e
    subst c2
    rw [e] at q2 l1
    have q2' : KX sh n z2 kp kb b len J (.ok (p + 1)) := q2
    have l1' : b p < 256 := l1
    generalize hz : b p = o at l1'
    rw [ok_bq]
    show ∃ z', (if nI o ≤ 59 then if nI o < 2 then fn_X6_readInstruction_B79 F sh n (nI o) 60 z2 else if (4 : Int32) < nI o then fn_X6_readInstruction_B79 F sh n (nI o) 60 z2 else lt_ (z2.1 60 3) (fun v_84 => cal (fn_X6_readShort F sh n z2 60) (fun z_85 r_86 => if (r_86 : Int32) < (z_85.1 60 7) then some (z_85, ()) else if ((z_85.1 60 4) : Int32) = 0 then some (z_85, ()) else cal (fn_X6_fail F sh n z_85 60 13 v_84) (fun z_90 _ => some (z_90, ())))) else cal (fn_X6_fail F sh n z2 60 5 (z1.1 60 3)) (fun z_92 _ => some (z_92, ()))) = some (z', ()) ∧ KX sh n z' kp kb b len J (cu (if 59 < o then .error (5, p) else if 1 < o ∧ o < 5 then sk len 2 (p + 1) >>= fun s => jd Jo (fun _ => if many ≤ shB b (p + 1) then some (13, p + 1) else none) (.ok s) else if 4 < o ∧ o < 11 then sk len (opB o) (p + 1) else if 10 < o ∧ o < 16 then rBy b len (p + 1) >>= fun a => jd Jo (fun _ => if loc ≤ a.1 then some (10, p + 1) else none) (.ok ((), a.2)) else if o = 16 ∨ o = 17 then gOwn b len Jo (p + 1) >>= fun a => rBy b len a.2 >>= fun c => jd Jo (fun j => if j.2.2.1 a.1 ≤ c.1 then some (9, a.2) else none) (.ok ((), c.2)) else if o = 21 ∨ o = 22 ∨ (46 < o ∧ o < 52) then gOwn b len Jo (p + 1) >>= fun a => .ok ((), a.2) else if o = 23 then rBy b len (p + 1) >>= fun a => jd Jo (fun j => if j.2.2.2.1 ≤ a.1 then some (11, p + 1) else none) (.ok ((), a.2)) else if 51 < o ∧ o < 59 then rBy b len (p + 1) >>= fun a => jd Jo (fun j => if j.2.2.2.2 ≤ a.1 then some (12, p + 1) else none) (.ok ((), a.2)) >>= fun c => if o = 52 then rN b len 0 64 c.2 >>= fun d => .ok ((), d.2) else .ok ((), c.2) else .ok ((), p + 1))) ∧ FC kp z1 z'
    by_cases c59 : 59 < o
    · obtain ⟨z3, t1, t2, t3⟩ := q2'.fail (F := F) (w := 5) (f := fun _ => p) (iw := 5) (x := z1.1 60 3) rfl (fun _ _ => k1.2.1) (by omega) (by omega)
      rw [if_neg (fun y => by have := (nIle (x := 59) 59 rfl (by omega) (by omega)).mp y; omega), t1, cal_s, if_pos c59]
      exact ⟨z3, rfl, t2, q3.trans t3⟩
    rw [if_pos ((nIle (x := 59) 59 rfl (by omega) (by omega)).mpr (by omega)), if_neg c59]
    by_cases c1 : 1 < o ∧ o < 5
    · rw [if_neg (fun y => by have := (nIlt (x := 2) 2 rfl (by omega) (by omega)).mp y; omega), if_neg (fun y => by have := (nIgt (x := 4) 4 rfl (by omega) (by omega)).mp y; omega), if_pos c1, lt_t]
      obtain ⟨z3, v, t1, t2, t3, t4, t5⟩ := q2'.short (F := F)
      rw [t1, cal_s, t4.1.2.2.2.2.2.2.2.2, t5.2.2.2.2 7 (by simp), j2.2.2.1]
      rw [ok_bq] at t4
      have vj : (z2.1 60 3) = nI (p + 1) := q2'.2.1
      cases e2 : sk len 2 (p + 1) with
      | error w =>
        rw [e2] at t4
        have t4' : KX sh n z3 kp kb b len J (.error w) := t4
        refine ⟨z3, ?_, t4', q3.trans t5⟩
        rw [t4'.fail_e, cal_s, ite_self, ite_self]
      | ok s =>
        have sl := sk_ok e2
        have es := sk_i e2
        subst es
        rw [e2] at t4
        have t4' : KX sh n z3 kp kb b len J (.ok (p + 1 + 2)) := t4
        have ev := t3 (p + 1) rfl sl.1
        have m2 := j2.2.2.2.1
        rw [ok_bq]
        cases Jo with
        | none =>
          have : J = false := ej.symm
          subst this
          refine ⟨z3, ?_, t4', q3.trans t5⟩
          rw [if_pos (show bI false = 0 from rfl), ite_self]
        | some j =>
          have : J = true := ej.symm
          subst this
          rw [jd_s, if_neg bI_so, ← ev]
          by_cases cm : many ≤ v
          · obtain ⟨z4, u1, u2, u3⟩ := t4'.fail (F := F) (w := 13) (f := fun _ => p + 1) (iw := 13) (x := z2.1 60 3) rfl (fun _ _ => vj) (by omega) (by omega)
            rw [if_neg (fun y => by have := (nI_ltI (by omega) (by omega)).mp y; omega), u1, cal_s, if_pos cm]
            exact ⟨z4, rfl, u2, q3.trans (t5.trans u3)⟩
          · rw [if_pos ((nI_ltI (by omega) (by omega)).mpr (by omega)), if_neg cm]
            exact ⟨z3, rfl, t4', q3.trans t5⟩
    have e79 : (if nI o < 2 then fn_X6_readInstruction_B79 F sh n (nI o) 60 z2 else if (4 : Int32) < nI o then fn_X6_readInstruction_B79 F sh n (nI o) 60 z2 else lt_ (z2.1 60 3) (fun v_84 => cal (fn_X6_readShort F sh n z2 60) (fun z_85 r_86 => if (r_86 : Int32) < (z_85.1 60 7) then some (z_85, ()) else if ((z_85.1 60 4) : Int32) = 0 then some (z_85, ()) else cal (fn_X6_fail F sh n z_85 60 13 v_84) (fun z_90 _ => some (z_90, ()))))) = fn_X6_readInstruction_B79 F sh n (nI o) 60 z2 := by
      by_cases d : o < 2
      · rw [if_pos ((nIlt (x := 2) 2 rfl (by omega) (by omega)).mpr d)]
      · rw [if_neg (fun y => d ((nIlt (x := 2) 2 rfl (by omega) (by omega)).mp y)), if_pos ((nIgt (x := 4) 4 rfl (by omega) (by omega)).mpr (by omega))]
    rw [e79, if_neg c1]
    unfold fn_X6_readInstruction_B79
    by_cases c2 : 4 < o ∧ o < 11
    · rw [if_neg (fun y => by have := (nIlt (x := 5) 5 rfl (by omega) (by omega)).mp y; omega), if_neg (fun y => by have := (nIgt (x := 10) 10 rfl (by omega) (by omega)).mp y; omega), if_pos c2, op_ps o c2.1 c2.2]
      have ps : ∀ k, k < 17 → ∃ z', cal (fn_X6_pass F sh n z2 60 (nI k)) (fun z_80 _ => some (z_80, ())) = some (z', ()) ∧ KX sh n z' kp kb b len J (cu (sk len k (p + 1))) ∧ FC kp z1 z' := fun k hk => by
        obtain ⟨z3, t1, t2, t3⟩ := KX.pass (F := F) (cnt := k) (by omega) k 0 F z2 (.ok (p + 1)) (by omega) (by omega) q2'
        unfold fn_X6_pass
        rw [show (0 : Int32) = nI 0 from rfl, t1, cal_s]
        exact ⟨z3, rfl, t2, q3.trans t3⟩
      by_cases d5 : o = 5
      · rw [if_pos ((nIe (x := 5) 5 rfl (by omega) (by omega)).mpr d5), if_pos d5]; exact ps 1 (by omega)
      rw [if_neg (fun y => d5 ((nIe (x := 5) 5 rfl (by omega) (by omega)).mp y)), if_neg d5]
      by_cases d7 : o = 7
      · rw [if_pos ((nIe (x := 7) 7 rfl (by omega) (by omega)).mpr d7), if_pos d7]; exact ps 16 (by omega)
      rw [if_neg (fun y => d7 ((nIe (x := 7) 7 rfl (by omega) (by omega)).mp y)), if_neg d7]
      by_cases d6 : o = 6
      · rw [if_pos ((nIe (x := 6) 6 rfl (by omega) (by omega)).mpr d6), if_pos d6]; exact ps 8 (by omega)
      rw [if_neg (fun y => d6 ((nIe (x := 6) 6 rfl (by omega) (by omega)).mp y)), if_neg d6]
      by_cases d10 : o = 10
      · rw [if_pos ((nIe (x := 10) 10 rfl (by omega) (by omega)).mpr d10), if_pos d10]; exact ps 8 (by omega)
      rw [if_neg (fun y => d10 ((nIe (x := 10) 10 rfl (by omega) (by omega)).mp y)), if_neg d10]; exact ps 0 (by omega)
    rw [if_neg c2]
    have e135 : (if nI o < 5 then fn_X6_readInstruction_B135 F sh n (nI o) 60 z2 else if (10 : Int32) < nI o then fn_X6_readInstruction_B135 F sh n (nI o) 60 z2 else if nI o = 5 then cal (fn_X6_pass F sh n z2 60 1) (fun z_80 _ => some (z_80, ())) else if nI o = 7 then cal (fn_X6_pass F sh n z2 60 16) (fun z_78 _ => some (z_78, ())) else if nI o = 6 then cal (fn_X6_pass F sh n z2 60 8) (fun z_71 _ => some (z_71, ())) else if nI o = 10 then cal (fn_X6_pass F sh n z2 60 8) (fun z_76 _ => some (z_76, ())) else cal (fn_X6_pass F sh n z2 60 0) (fun z_74 _ => some (z_74, ()))) = fn_X6_readInstruction_B135 F sh n (nI o) 60 z2 := by
      by_cases d : o < 5
      · rw [if_pos ((nIlt (x := 5) 5 rfl (by omega) (by omega)).mpr d)]
      · rw [if_neg (fun y => d ((nIlt (x := 5) 5 rfl (by omega) (by omega)).mp y)), if_pos ((nIgt (x := 10) 10 rfl (by omega) (by omega)).mpr (by omega))]
    rw [e135]
    unfold fn_X6_readInstruction_B135
    by_cases c3 : 10 < o ∧ o < 16
    · obtain ⟨z3, t1, t2, t3⟩ := q2'.judged (F := F) ej (bd := fun _ => loc) (w := 10) (x0 := z2.1 60 6) (x1 := 10) (fun j p e _ => ⟨j2.1, j2.2.1⟩) rfl (by omega) (by omega)
      rw [if_neg (fun y => by have := (nIlt (x := 11) 11 rfl (by omega) (by omega)).mp y; omega), if_neg (fun y => by have := (nIgt (x := 15) 15 rfl (by omega) (by omega)).mp y; omega), t1, cal_s, if_pos c3]
      refine ⟨z3, rfl, ?_, q3.trans t3⟩
      rw [ok_bq] at t2
      cases e2 : rBy b len (p + 1) with
      | error w => rw [e2] at t2; exact t2
      | ok c =>
        rw [e2, ok_bq, cu_jd] at t2
        rw [ok_bq]; exact t2
    rw [if_neg c3]
    obtain ⟨z3, t1, t2, t3⟩ := q2'.b161 (F := F) ej j2 (o := o) (by omega) c1 c2 c3
    refine ⟨z3, ?_, t2, q3.trans t3⟩
    by_cases d : o < 11
    · rw [if_pos ((nIlt (x := 11) 11 rfl (by omega) (by omega)).mpr d)]; exact t1
    · rw [if_neg (fun y => d ((nIlt (x := 11) 11 rfl (by omega) (by omega)).mp y)), if_pos ((nIgt (x := 15) 15 rfl (by omega) (by omega)).mpr (by omega))]; exact t1
end
