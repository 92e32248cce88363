/-! THE CLASS'S READER: a module's pieces -/
section
variable {F n : Nat} {sh : Nat → Nat × Nat} {z z' : St} {kp kb len : Nat} {b : Nat → Nat} {J : Bool} {r : Ex Nat} {ks js hs : List Nat} {Jo : Option JI}
theorem coin_4 {i : Nat} (hi : i < 4) : rb sh n z CBK (nI i) = some (nI (hdB i)) := by
  have : ∀ i, i < 4 → rb sh n z CBK (nI i) = some (nI (hdB i)) := by
    intro i h
    match i, h with
    | 0, _ => rfl
    | 1, _ => rfl
    | 2, _ => rfl
    | 3, _ => rfl
  exact this i hi
theorem hdB_lt (i : Nat) : 0 < hdB i ∧ hdB i < 256 := by
  unfold hdB
  split
  · omega
  split
  · omega
  split <;> omega
theorem KX.begin (hF : 300 ≤ F) : ∀ m i g z r, i + m = 4 → m < g → KX sh n z kp kb b len J r → (∀ p, r = .ok p → p = i) → ∃ z', fn_X6_readBeginning_L2 F sh n 60 g z (nI i) = some (z', ()) ∧ KX sh n z' kp kb b len J (cu (r >>= fun p => pHd b len m p >>= fun h => sk len 2 h.2)) ∧ (∀ q, (r >>= fun p => pHd b len m p >>= fun h => sk len 2 h.2) = .ok q → z'.1 kp 2 = nI (shB b 4) ∧ q.2 = 6) ∧ FrKd kp [] [2] [0, 1, 3] z z' := by
  intro m
  induction m with
  | zero =>
    intro i g z r ei hg h hp
    obtain ⟨g, rfl⟩ : ∃ q, g = q + 1 := ⟨g - 1, by omega⟩
    have e4 : i = 4 := by omega
    subst e4
    obtain ⟨z1, v, a1, a2, a3, a4, a5⟩ := h.short (F := F)
    unfold fn_X6_readBeginning_L2
    rw [if_pos (show (4 : Int32) ≤ nI 4 by decide), h.1.o, grd_true, h.1.2.2.1, lnk_s, a1, cal_s, h.1.p, grd_true, lt_t]
    have f : FrKd kp [] [2] [] z1 (si z1 kp 2 (nI v)) := FrKd.siP h.1.ne (by simp)
    refine ⟨_, rfl, ?_, ?_, (a5.g (by simp)).trans (f.mono (by simp) (by simp) (by simp))⟩
    · have k := a4.fr f (by simp) (by simp) (by simp)
      cases r with
      | error e => exact k
      | ok p => exact k
    · intro q y
      obtain ⟨p, y1, y⟩ := bq_ok y
      have e := hp p y1
      subst e
      have y' : sk len 2 4 = .ok q := y
      rw [si_ss, a3 4 y1 (sk_ok y').1]
      exact ⟨rfl, (sk_ok y').2⟩
  | succ m ih =>
    intro i g z r ei hg h hp
    obtain ⟨g, rfl⟩ : ∃ q, g = q + 1 := ⟨g - 1, by omega⟩
    have hk := isP_ne h.1.2.1
    obtain ⟨z1, q1, q2, q3⟩ := h.byte (F := F)
    have l1 := vN_lt h
    have hd := hdB_lt i
    unfold fn_X6_readBeginning_L2 fn_X6_readBeginning_B30
    rw [if_neg (fun y => by have := (nIge (x := 4) 4 rfl (by omega) (by omega)).mp y; omega), h.1.o, grd_true, lt_t, q1, cal_s, coin_4 (by omega), bnd_s]
    cases r with
    | error e =>
      have q2' : KX sh n z1 kp kb b len J (.error e) := q2
      obtain ⟨z2, s1, s2, s3, s4⟩ := ih (i + 1) g z1 (.error e) (by omega) (by omega) q2' (fun p y => by cases y)
      rw [q2'.fail_e, cal_s, ite_self, nI_1]
      exact ⟨z2, s1, s2, fun q y => (by cases y), (q3.g (by simp)).trans s4⟩
    | ok p =>
      have e := hp p rfl
      subst e
      rw [ok_bq] at q2 l1
      rw [ok_bq, ok_bq]
      unfold pHd
      cases e : rBy b len p with
      | error w =>
        rw [e] at q2
        have q2' : KX sh n z1 kp kb b len J (.error w) := q2
        obtain ⟨z2, s1, s2, s3, s4⟩ := ih (p + 1) g z1 (.error w) (by omega) (by omega) q2' (fun p y => by cases y)
        rw [q2'.fail_e, cal_s, ite_self, nI_1]
        exact ⟨z2, s1, s2, fun q y => (by cases y), (q3.g (by simp)).trans s4⟩
      | ok q =>
        obtain ⟨c1, c2⟩ := rBy_ok e
        subst c2
        rw [e] at q2 l1
        have q2' : KX sh n z1 kp kb b len J (.ok (p + 1)) := q2
        have l1' : b p < 256 := l1
        rw [ok_bq]
        show ∃ z', (if nI (b p) = nI (hdB p) then fn_X6_readBeginning_L2 F sh n 60 g z1 (nI p + 1) else cal (fn_X6_fail F sh n z1 60 1 (z.1 60 3)) (fun z_21 _ => fn_X6_readBeginning_L2 F sh n 60 g z_21 (nI p + 1))) = some (z', ()) ∧ KX sh n z' kp kb b len J (cu ((if b p ≠ hdB p then .error (1, p) else pHd b len m (p + 1)) >>= fun h => sk len 2 h.2)) ∧ (∀ q, ((if b p ≠ hdB p then .error (1, p) else pHd b len m (p + 1)) >>= fun h => sk len 2 h.2) = .ok q → z'.1 kp 2 = nI (shB b 4) ∧ q.2 = 6) ∧ _
        by_cases c : b p = hdB p
        · rw [if_pos (by rw [c]), if_neg (fun y => y c), nI_1]
          obtain ⟨z2, s1, s2, s3, s4⟩ := ih (p + 1) g z1 (.ok (p + 1)) (by omega) (by omega) q2' (fun p y => by cases y; rfl)
          exact ⟨z2, s1, s2, s3, (q3.g (by simp)).trans s4⟩
        · obtain ⟨z2, f1, f2, f3⟩ := q2'.fail (F := F) (w := 1) (f := fun _ => p) (iw := 1) (x := z.1 60 3) rfl (fun _ _ => h.2.1) (by omega) (by omega)
          have f2' : KX sh n z2 kp kb b len J (.error (1, p)) := f2
          obtain ⟨z3, s1, s2, s3, s4⟩ := ih (p + 1) g z2 (.error (1, p)) (by omega) (by omega) f2' (fun p y => by cases y)
          rw [if_neg (fun y => c ((nI_eq (by omega) (by omega)).mp y)), if_pos c, f1, cal_s, nI_1]
          exact ⟨z3, s1, s2, fun q y => (by cases y), ((q3.g (by simp)).trans (f3.g (by simp))).trans s4⟩
theorem gSts_len : ∀ (k : Nat) {p : Nat} {q : List SP × Nat}, gSts b len Jo k p = .ok q → q.1.length = k
  | 0, p, q, h => by cases h; rfl
  | k + 1, p, q, h => by
    unfold gSts at h
    obtain ⟨a, y1, h⟩ := bq_ok h
    obtain ⟨c, y2, h⟩ := bq_ok h
    cases h
    rw [List.length_cons, gSts_len k y2]
theorem gCas_len : ∀ (k : Nat) {p : Nat} {q : List CP × Nat}, gCas b len Jo k p = .ok q → q.1.length = k
  | 0, p, q, h => by cases h; rfl
  | k + 1, p, q, h => by
    unfold gCas at h
    obtain ⟨a, y1, h⟩ := bq_ok h
    obtain ⟨c, y2, h⟩ := bq_ok h
    cases h
    rw [List.length_cons, gCas_len k y2]
theorem gFns_len : ∀ (k : Nat) {gs : List GP} {p : Nat} {q : List GP × Nat}, gFns b len Jo k gs p = .ok q → q.1.length = gs.length + k
  | 0, gs, p, q, h => by cases h; rfl
  | k + 1, gs, p, q, h => by
    unfold gFns at h
    obtain ⟨a, y1, h⟩ := bq_ok h
    rw [gFns_len k h, List.length_append]
    show gs.length + 1 + k = _
    omega
theorem gEls_p : ∀ (k p : Nat), pTs b len (jAll Jo) false k p = (gEls b len Jo k p >>= fun r => .ok (r.1.map (fun e => e.2), r.2))
  | 0, p => rfl
  | k + 1, p => by
    unfold pTs gEls
    cases rT b len (jAll Jo) false p with
    | error w => rfl
    | ok t =>
      rw [ok_bq, ok_bq, gEls_p k t.2]
      cases gEls b len Jo k t.2 <;> rfl
theorem gEls_len : ∀ (k : Nat) {p : Nat} {q : List (Nat × Ty) × Nat}, gEls b len Jo k p = .ok q → q.1.length = k
  | 0, p, q, h => by cases h; rfl
  | k + 1, p, q, h => by
    unfold gEls at h
    obtain ⟨a, y1, h⟩ := bq_ok h
    obtain ⟨c, y2, h⟩ := bq_ok h
    cases h
    rw [List.length_cons, gEls_len k y2]
/-- a count, and what comes behind it -/
theorem cntN {α : Type} {hi : Nat} {f : Nat → Nat → Ex (α × Nat)} : (cu (r >>= rN b len 0 hi) >>= f (vN (r >>= rN b len 0 hi))) = (r >>= fun p => rN b len 0 hi p >>= fun e => f e.1 e.2) := by
  cases r with
  | error e => rfl
  | ok p =>
    rw [ok_bq, ok_bq]
    cases rN b len 0 hi p <;> rfl
theorem KX.structsAll (hF : 300 ≤ F) (h : KX sh n z kp kb b len J r) (ej : Jo.isSome = J) (hj : ∀ m, jAll Jo = some m → z.1 kp 9 = nI m ∧ m < 256) {nm : Nat} (hT : ∀ p, r = .ok p → TyT z kp [] ∧ z.1 kp 2 = nI nm) : ∃ z' own, fn_X6_readStructures F sh n z 60 = some (z', ()) ∧ own ≤ 32 ∧ z'.1 kp 8 = nI own ∧ KX sh n z' kp kb b len J (cu (r >>= fun p => rN b len 0 32 p >>= fun e => gSts b len Jo e.1 e.2)) ∧ (∀ q, (r >>= fun p => rN b len 0 32 p >>= fun e => gSts b len Jo e.1 e.2) = .ok q → own = q.1.length ∧ TyT z' kp (flS q.1) ∧ (flS q.1).length ≤ q.2 ∧ RoS z' kp nm 0 0 q.1) ∧ FrKd kp [kp + 1, kp + 3] [4, 8, 9] [0, 1, 3] z z' := by
  obtain ⟨z1, a1, a2, a3⟩ := h.number (F := F) (lo := 0) (hi := 32) (il := 0) (ih := 32) rfl rfl (by omega) (by omega)
  have v32 : vN (r >>= rN b len 0 32) ≤ 32 := vN_rN (by omega)
  unfold fn_X6_readStructures fn_X6_readStructures_B35
  rw [h.1.o, grd_true, h.1.2.2.1, lnk_s, a1, cal_s, h.1.p, grd_true, lt_t]
  have f1 : FrKd kp [] [8, 9] [] z1 (si z1 kp 8 (nI (vN (r >>= rN b len 0 32)))) := FrKd.siP h.1.ne (by simp)
  have e8 : (si z1 kp 8 (nI (vN (r >>= rN b len 0 32)))).1 kp 8 = nI (vN (r >>= rN b len 0 32)) := si_ss
  have k1 := a2.fr f1 (by simp) (by simp) (by simp)
  have j9 : ∀ m, jAll Jo = some m → (si z1 kp 8 (nI (vN (r >>= rN b len 0 32)))).1 kp 9 = nI m ∧ m < 256 := fun m y => by
    rw [si_oj (by omega), a3.2.2.2.1 9 (by simp)]; exact hj m y
  generalize si z1 kp 8 (nI (vN (r >>= rN b len 0 32))) = y at f1 e8 k1 j9
  -- judging or not, the loop begins at a state of this kind
  suffices g : ∃ w, (if ((y.1 60 4) : Int32) = 0 then lnk (y.2.2 60 2) (fun k_54 => lnk (y.2.2 60 2) (fun k_55 => grd (okO sh n k_55 5) (grd (okO sh n k_54 5) (lt_ (si y k_54 9 (y.1 k_55 8)) (fun z_59 => fn_X6_readStructures_L37 F sh n 60 F z_59 0))))) else fn_X6_readStructures_L37 F sh n 60 F y 0) = fn_X6_readStructures_L37 F sh n 60 F w 0 ∧ KX sh n w kp kb b len J (cu (r >>= rN b len 0 32)) ∧ FrKd kp [] [9] [] y w ∧ (∀ m, jAll Jo = some m → w.1 kp 9 = nI m ∧ m < 256) by
    obtain ⟨w, g1, g2, g3, g4⟩ := g
    have fw : FrKd kp [] [8, 9] [0, 1, 3] z w := ((a3.g (by simp)).trans (f1.mono (by simp) (by simp) (by simp))).trans (g3.mono (by simp) (by simp) (by simp))
    obtain ⟨z2, s1, s2, s3, s4, s5⟩ := KX.structs (F := F) hF ej (own := vN (r >>= rN b len 0 32)) (nm := nm) v32 _ 0 F w (cu (r >>= rN b len 0 32)) [] (Nat.zero_add _) (by omega) g2 g4 (by rw [g3.2.2.2.1 8 (by simp)]; exact e8) (fun p' yy => by
      obtain ⟨q, y1, y2⟩ := cu_ok yy
      obtain ⟨p, y3, y4⟩ := bq_ok y1
      have := hT p y3
      exact ⟨this.1.fr fw (by simp) (by simp), Nat.zero_le _, by rw [fw.2.2.2.1 2 (by simp)]; exact this.2⟩)
    rw [cntN (f := fun a c => gSts b len Jo a c)] at s2 s3
    have s1' : fn_X6_readStructures_L37 F sh n 60 F w 0 = some (z2, ()) := s1
    refine ⟨z2, vN (r >>= rN b len 0 32), by rw [g1]; exact s1', v32, ?_, s2, ?_, (fw.mono (by simp) (by simp) (by simp)).trans (s5.mono (by simp) (by simp) (by simp))⟩
    · rw [s5.2.2.2.1 8 (by simp), g3.2.2.2.1 8 (by simp)]; exact e8
    · intro q yy
      have t := s3 q yy
      rw [List.nil_append] at t
      obtain ⟨p, y1, yy⟩ := bq_ok yy
      obtain ⟨e, y2, yy⟩ := bq_ok yy
      refine ⟨?_, t.1, t.2.1, t.2.2⟩
      rw [y1, ok_bq, y2, gSts_len _ yy]; rfl
  rw [k1.1.2.2.2.2.2.2.2.2]
  cases Jo with
  | none =>
    have : J = false := ej.symm
    subst this
    rw [if_pos (show bI false = 0 from rfl), k1.1.2.2.1, lnk_s, lnk_s, k1.1.p, grd_true, grd_true, lt_t]
    have f2 : FrKd kp [] [9] [] y (si y kp 9 (y.1 kp 8)) := FrKd.siP h.1.ne (by simp)
    exact ⟨_, rfl, k1.fr f2 (by simp) (by simp) (by simp), f2, fun m yy => (by cases yy)⟩
  | some j =>
    have : J = true := ej.symm
    subst this
    rw [if_neg bI_so]
    exact ⟨y, rfl, k1, FrKd.rfl', j9⟩
theorem KX.foresAll (hF : 300 ≤ F) (h : KX sh n z kp kb b len J r) {own : Nat} (ho : own ≤ 32) (e8 : z.1 kp 8 = nI own) : ∃ z' al, fn_X6_readForeignStructures F sh n z 60 = some (z', ()) ∧ own ≤ al ∧ al ≤ 64 ∧ z'.1 kp 9 = nI al ∧ KX sh n z' kp kb b len J (cu (r >>= fun p => rN b len 0 32 p >>= fun e => pFos b len e.1 e.2)) ∧ (∀ q, (r >>= fun p => rN b len 0 32 p >>= fun e => pFos b len e.1 e.2) = .ok q → al = own + q.1.length ∧ RoF z' kp b own q.1) ∧ (∀ x, x < 7 * own → z'.1 (kp + 3) x = z.1 (kp + 3) x) ∧ FrKd kp [kp + 3] [9] [0, 1, 3] z z' := by
  have hk := isP_ne h.1.2.1
  obtain ⟨z1, a1, a2, a3⟩ := h.number (F := F) (lo := 0) (hi := 32) (il := 0) (ih := 32) rfl rfl (by omega) (by omega)
  have v32 : vN (r >>= rN b len 0 32) ≤ 32 := vN_rN (by omega)
  unfold fn_X6_readForeignStructures
  rw [h.1.o, grd_true, a1, cal_s, a2.1.2.2.1, lnk_s, lnk_s, h.1.p, grd_true, grd_true, a3.2.2.2.1 8 (by simp), e8, nI_add, lt_t]
  have f1 : FrKd kp [] [9] [] z1 (si z1 kp 9 (nI (own + vN (r >>= rN b len 0 32)))) := FrKd.siP h.1.ne (by simp)
  have k1 := a2.fr f1 (by simp) (by simp) (by simp)
  have e9 : (si z1 kp 9 (nI (own + vN (r >>= rN b len 0 32)))).1 kp 9 = nI (own + vN (r >>= rN b len 0 32)) := si_ss
  have e8' : (si z1 kp 9 (nI (own + vN (r >>= rN b len 0 32)))).1 kp 8 = nI own := by rw [si_oj (by omega), a3.2.2.2.1 8 (by simp)]; exact e8
  generalize si z1 kp 9 (nI (own + vN (r >>= rN b len 0 32))) = y at f1 k1 e9 e8'
  rw [k1.1.2.2.1, lnk_s, h.1.p, grd_true, lt_t, e8']
  obtain ⟨z2, s1, s2, s3, s4, s5⟩ := KX.fores (F := F) (al := own + vN (r >>= rN b len 0 32)) (own := own) (by omega) (vN (r >>= rN b len 0 32)) own F y (cu (r >>= rN b len 0 32)) rfl (by omega) k1 e9
  rw [cntN (f := fun a c => pFos b len a c)] at s2 s3
  refine ⟨z2, own + vN (r >>= rN b len 0 32), s1, by omega, by omega, ?_, s2, ?_, fun x hx => ?_, ((a3.g (by simp)).trans (f1.mono (by simp) (by simp) (by simp))).trans (s5.mono (by simp) (by simp) (by simp))⟩
  · rw [s5.2.2.2.1 9 (by simp)]; exact e9
  · intro q yy
    refine ⟨?_, s3 q yy⟩
    obtain ⟨p, y1, yy⟩ := bq_ok yy
    obtain ⟨e, y2, yy⟩ := bq_ok yy
    rw [y1, ok_bq, y2, pFos_len _ yy]; rfl
  · rw [s4 x hx, f1.2.1 (kp + 3) (by omega) (by omega) (by simp), a3.2.1 (kp + 3) (by omega) (by omega) (by simp)]
theorem KX.ffnsAll (hF : 300 ≤ F) (h : KX sh n z kp kb b len J r) (ej : Jo.isSome = J) (hj : ∀ m, jAll Jo = some m → z.1 kp 9 = nI m ∧ m < 256) {T : List Ty} (hT : ∀ p, r = .ok p → TyT z kp T ∧ T.length ≤ p) : ∃ z' fo, fn_X6_readForeignFunctions F sh n z 60 = some (z', ()) ∧ fo ≤ 32 ∧ z'.1 kp 12 = nI fo ∧ KX sh n z' kp kb b len J (cu (r >>= fun p => rN b len 0 32 p >>= fun e => gCas b len Jo e.1 e.2)) ∧ (∀ q, (r >>= fun p => rN b len 0 32 p >>= fun e => gCas b len Jo e.1 e.2) = .ok q → fo = q.1.length ∧ TyT z' kp (T ++ flC q.1) ∧ (T ++ flC q.1).length ≤ q.2 ∧ RoC z' kp b 64 T.length q.1) ∧ FrKd kp [kp + 1, kp + 4] [4, 12] [0, 1, 3] z z' := by
  obtain ⟨z1, a1, a2, a3⟩ := h.number (F := F) (lo := 0) (hi := 32) (il := 0) (ih := 32) rfl rfl (by omega) (by omega)
  have v32 : vN (r >>= rN b len 0 32) ≤ 32 := vN_rN (by omega)
  unfold fn_X6_readForeignFunctions
  rw [h.1.o, grd_true, h.1.2.2.1, lnk_s, a1, cal_s, h.1.p, grd_true, lt_t]
  have f1 : FrKd kp [] [12] [] z1 (si z1 kp 12 (nI (vN (r >>= rN b len 0 32)))) := FrKd.siP h.1.ne (by simp)
  have k1 := a2.fr f1 (by simp) (by simp) (by simp)
  have e12 : (si z1 kp 12 (nI (vN (r >>= rN b len 0 32)))).1 kp 12 = nI (vN (r >>= rN b len 0 32)) := si_ss
  generalize si z1 kp 12 (nI (vN (r >>= rN b len 0 32))) = y at f1 k1 e12
  have fw : FrKd kp [] [12] [0, 1, 3] z y := (a3.g (by simp)).trans (f1.mono (by simp) (by simp) (by simp))
  obtain ⟨z2, s1, s2, s3, s4, s5⟩ := KX.ffns (F := F) hF ej (fo := vN (r >>= rN b len 0 32)) v32 (vN (r >>= rN b len 0 32)) 0 F y (cu (r >>= rN b len 0 32)) T (Nat.zero_add _) (by omega) k1 (fun m yy => by rw [fw.2.2.2.1 9 (by simp)]; exact hj m yy) e12 (fun p' yy => by
      obtain ⟨q, y1, y2⟩ := cu_ok yy
      obtain ⟨p, y3, y4⟩ := bq_ok y1
      have := hT p y3
      obtain ⟨_, eq, _⟩ := rN_ok y4
      subst eq
      exact ⟨this.1.fr fw (by simp) (by simp), by rw [← y2]; show _ ≤ p + 1; omega⟩)
  rw [cntN (f := fun a c => gCas b len Jo a c)] at s2 s3
  have s1' : fn_X6_readForeignFunctions_L16 F sh n 60 F y 0 = some (z2, ()) := s1
  refine ⟨z2, vN (r >>= rN b len 0 32), s1', v32, ?_, s2, ?_, (fw.mono (by simp) (by simp) (by simp)).trans (s5.mono (by simp) (by simp) (by simp))⟩
  · rw [s5.2.2.2.1 12 (by simp)]; exact e12
  · intro q yy
    have t := s3 q yy
    obtain ⟨p, y1, yy⟩ := bq_ok yy
    obtain ⟨e, y2, yy⟩ := bq_ok yy
    refine ⟨?_, t.1, t.2.1, t.2.2⟩
    rw [y1, ok_bq, y2, gCas_len _ yy]; rfl
end
