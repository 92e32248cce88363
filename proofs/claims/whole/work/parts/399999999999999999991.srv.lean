/-! THE CLASS'S READER: a pass over a module -/
/-- what is read ahead of the functions -/
abbrev PP : Type := List SP × List Nat × List CP × List (Nat × Ty)
def gPre (b : Nat → Nat) (len : Nat) (J : Option JI) : Ex (PP × Nat) := pHd b len 4 0 >>= fun h => sk len 2 h.2 >>= fun s => rN b len 0 32 s.2 >>= fun n1 => gSts b len J n1.1 n1.2 >>= fun ss => rN b len 0 32 ss.2 >>= fun n2 => pFos b len n2.1 n2.2 >>= fun fo => rN b len 0 32 fo.2 >>= fun n3 => gCas b len J n3.1 n3.2 >>= fun cs => rN b len 0 32 cs.2 >>= fun n4 => gEls b len J n4.1 n4.2 >>= fun es => .ok ((ss.1, fo.1, cs.1, es.1), es.2)
theorem gAll_pre (b : Nat → Nat) (len : Nat) (J : Option JI) : gAll b len J = (gPre b len J >>= fun m => gq5 b len J m.2 >>= fun r => .ok ((m.1.1, m.1.2.1, m.1.2.2.1, m.1.2.2.2, r.1), r.2)) := by
  unfold gAll gPre gq1 gq2 gq3 gq4
  cases pHd b len 4 0 with
  | error w => rfl
  | ok h =>
    simp only [ok_bq]
    cases sk len 2 h.2 with
    | error w => rfl
    | ok s =>
      simp only [ok_bq]
      cases rN b len 0 32 s.2 with
      | error w => rfl
      | ok n1 =>
        simp only [ok_bq]
        cases gSts b len J n1.1 n1.2 with
        | error w => rfl
        | ok ss =>
          simp only [ok_bq]
          cases rN b len 0 32 ss.2 with
          | error w => rfl
          | ok n2 =>
            simp only [ok_bq]
            cases pFos b len n2.1 n2.2 with
            | error w => rfl
            | ok fo =>
              simp only [ok_bq]
              cases rN b len 0 32 fo.2 with
              | error w => rfl
              | ok n3 =>
                simp only [ok_bq]
                cases gCas b len J n3.1 n3.2 with
                | error w => rfl
                | ok cs =>
                  simp only [ok_bq]
                  cases rN b len 0 32 cs.2 with
                  | error w => rfl
                  | ok n4 =>
                    simp only [ok_bq]
                    cases gEls b len J n4.1 n4.2 with
                    | error w => rfl
                    | ok es =>
                      simp only [ok_bq]
                      cases gq5 b len J es.2 <;> rfl
def jiOf (M : MP) : JI := (M.1.length, M.1.length + M.2.1.length, fdM M, M.2.2.2.2.length + M.2.2.1.length, M.2.2.2.1.length)
section
variable {b : Nat → Nat} {len : Nat}
theorem jg_ok {α : Type} {e : Flt} {x q : α} (h : jg e (.ok x : Ex α) = .ok q) : q = x := by
  cases e with
  | none => cases h; rfl
  | some w => cases h
/-- ahead of the functions: as it was read the first time -/
theorem gPre_j {q : MP × Nat} (h : pAll b len = .ok q) {x : PP × Nat} {j : JI} (hx : gPre b len (some j) = .ok x) : x.1 = (q.1.1, q.1.2.1, q.1.2.2.1, q.1.2.2.2.1) ∧ q5 b len x.2 = .ok (q.1.2.2.2.2, q.2) := by
  unfold pAll at h
  obtain ⟨h0, e1, h⟩ := bq_ok h
  obtain ⟨s0, e2, h⟩ := bq_ok h
  unfold q1 at h
  obtain ⟨n1, e3, h⟩ := bq_ok h
  obtain ⟨ss, e4, h⟩ := bq_ok h
  obtain ⟨r2, h2, h⟩ := bq_ok h
  cases h
  unfold q2 at h2
  obtain ⟨n2, e5, h2⟩ := bq_ok h2
  obtain ⟨fo, e6, h2⟩ := bq_ok h2
  obtain ⟨r3, h3, h2⟩ := bq_ok h2
  cases h2
  unfold q3 at h3
  obtain ⟨n3, e7, h3⟩ := bq_ok h3
  obtain ⟨cs, e8, h3⟩ := bq_ok h3
  obtain ⟨r4, h4, h3⟩ := bq_ok h3
  cases h3
  unfold q4 at h4
  obtain ⟨n4, e9, h4⟩ := bq_ok h4
  obtain ⟨es, e10, h4⟩ := bq_ok h4
  obtain ⟨r5, h5, h4⟩ := bq_ok h4
  cases h4
  unfold gPre at hx
  rw [e1, ok_bq, e2, ok_bq, e3, ok_bq, gSts_j j _ e4, jg_b, e5, ok_bq, e6, ok_bq, e7, ok_bq, gCas_j j _ e8, jg_b, jg_j, e9, ok_bq, gEls_j j _ e10, jg_b, jg_j] at hx
  have := jg_ok hx
  subst this
  exact ⟨rfl, h5⟩
end
/-- the class's tables hold a picture -/
def allT (M : MP) : List Ty := flS M.1 ++ flC M.2.2.1 ++ M.2.2.2.1.map (fun e => e.2) ++ flG M.2.2.2.2
def TMc (z : St) (kp : Nat) (b : Nat → Nat) (M : MP) : Prop := (z.1 kp 2 = nI (shB b 4) ∧ z.1 kp 8 = nI M.1.length ∧ z.1 kp 9 = nI (M.1.length + M.2.1.length) ∧ z.1 kp 11 = nI M.2.2.2.2.length ∧ z.1 kp 12 = nI M.2.2.1.length ∧ z.1 kp 13 = nI (flS M.1 ++ flC M.2.2.1).length ∧ z.1 kp 14 = nI M.2.2.2.1.length) ∧ RoS z kp (shB b 4) 0 0 M.1 ∧ RoF z kp b M.1.length M.2.1 ∧ RoC z kp b 64 (flS M.1).length M.2.2.1 ∧ RoG z kp (shB b 4) (flS M.1 ++ flC M.2.2.1 ++ M.2.2.2.1.map (fun e => e.2)).length M.2.2.2.2 ∧ TyT z kp (allT M) ∧ SrT z kp (allC M.2.2.2.2) ∧ (allT M).length ≤ 2048 ∧ (allC M.2.2.2.2).length ≤ 2048
section
variable {F n : Nat} {sh : Nat → Nat × Nat} {z z' : St} {kp kb len : Nat} {b : Nat → Nat} {J : Bool} {r : Ex Nat} {ks js hs : List Nat} {Jo : Option JI}
theorem RoS.fr {nm i off : Nat} {ss : List SP} (h : RoS z kp nm i off ss) (f : ∀ x, x < 7 * (i + ss.length) → z'.1 (kp + 3) x = z.1 (kp + 3) x) : RoS z' kp nm i off ss := fun k hk => (h k hk).fr (fun x hx => f x (by omega))
abbrev FrPs (kp : Nat) (z z' : St) : Prop := FrKd kp [kp + 1, kp + 2, kp + 3, kp + 4] [2, 4, 6, 8, 9, 11, 12, 13, 14] [0, 1, 3, 5, 6, 7] z z'
theorem pFos_le {b : Nat → Nat} {len : Nat} : ∀ (k : Nat) {p : Nat} {q : List Nat × Nat}, pFos b len k p = .ok q → p ≤ q.2
  | 0, p, q, h => by cases h; exact Nat.le_refl _
  | k + 1, p, q, h => by
    unfold pFos at h
    obtain ⟨a, y1, h⟩ := bq_ok h
    obtain ⟨c, y2, h⟩ := bq_ok h
    cases h
    have x2 := pFos_le k y2
    unfold pFo at y1
    obtain ⟨s, y3, y1⟩ := bq_ok y1
    obtain ⟨d, y4, y1⟩ := bq_ok y1
    cases y1
    obtain ⟨_, ed, _⟩ := rN_ok y4
    have x3 := (sk_ok y3).2
    subst ed
    have x2' : s.2 + 1 ≤ c.2 := x2
    show p ≤ c.2
    omega
/-- piece by piece -/
def gP1 (b : Nat → Nat) (len : Nat) : Ex (Unit × Nat) := pHd b len 4 0 >>= fun h => sk len 2 h.2
def gP2 (b : Nat → Nat) (len : Nat) (J : Option JI) : Ex (List SP × Nat) := gP1 b len >>= fun s => rN b len 0 32 s.2 >>= fun e => gSts b len J e.1 e.2
def gP3 (b : Nat → Nat) (len : Nat) (J : Option JI) : Ex (List Nat × Nat) := gP2 b len J >>= fun s => rN b len 0 32 s.2 >>= fun e => pFos b len e.1 e.2
def gP4 (b : Nat → Nat) (len : Nat) (J : Option JI) : Ex (List CP × Nat) := gP3 b len J >>= fun s => rN b len 0 32 s.2 >>= fun e => gCas b len J e.1 e.2
def gP5 (b : Nat → Nat) (len : Nat) (J : Option JI) : Ex (List Ty × Nat) := gP4 b len J >>= fun s => rN b len 0 32 s.2 >>= fun e => pTs b len (jAll J) false e.1 e.2
theorem gP5_e : cu (gP5 b len Jo) = cu (gPre b len Jo) := by
  unfold gP5 gP4 gP3 gP2 gP1 gPre
  cases pHd b len 4 0 with
  | error w => rfl
  | ok h =>
    simp only [ok_bq]
    cases sk len 2 h.2 with
    | error w => rfl
    | ok s =>
      simp only [ok_bq]
      cases rN b len 0 32 s.2 with
      | error w => rfl
      | ok n1 =>
        simp only [ok_bq]
        cases gSts b len Jo n1.1 n1.2 with
        | error w => rfl
        | ok ss =>
          simp only [ok_bq]
          cases rN b len 0 32 ss.2 with
          | error w => rfl
          | ok n2 =>
            simp only [ok_bq]
            cases pFos b len n2.1 n2.2 with
            | error w => rfl
            | ok fo =>
              simp only [ok_bq]
              cases rN b len 0 32 fo.2 with
              | error w => rfl
              | ok n3 =>
                simp only [ok_bq]
                cases gCas b len Jo n3.1 n3.2 with
                | error w => rfl
                | ok cs =>
                  simp only [ok_bq]
                  cases rN b len 0 32 cs.2 with
                  | error w => rfl
                  | ok n4 =>
                    simp only [ok_bq, gEls_p]
                    cases gEls b len Jo n4.1 n4.2 <;> rfl
theorem gPre_x {x : PP × Nat} (h : gPre b len Jo = .ok x) : ∃ s ss fo cs, gP1 b len = .ok s ∧ gP2 b len Jo = .ok ss ∧ gP3 b len Jo = .ok fo ∧ gP4 b len Jo = .ok cs ∧ gP5 b len Jo = .ok (x.1.2.2.2.map (fun e => e.2), x.2) ∧ x.1 = (ss.1, fo.1, cs.1, x.1.2.2.2) ∧ x.1.2.2.2.length ≤ 32 := by
  unfold gPre at h
  obtain ⟨h0, e1, h⟩ := bq_ok h
  obtain ⟨s0, e2, h⟩ := bq_ok h
  obtain ⟨n1, e3, h⟩ := bq_ok h
  obtain ⟨ss, e4, h⟩ := bq_ok h
  obtain ⟨n2, e5, h⟩ := bq_ok h
  obtain ⟨fo, e6, h⟩ := bq_ok h
  obtain ⟨n3, e7, h⟩ := bq_ok h
  obtain ⟨cs, e8, h⟩ := bq_ok h
  obtain ⟨n4, e9, h⟩ := bq_ok h
  obtain ⟨es, e10, h⟩ := bq_ok h
  cases h
  have p1 : gP1 b len = .ok s0 := by unfold gP1; rw [e1, ok_bq]; exact e2
  have p2 : gP2 b len Jo = .ok ss := by unfold gP2; rw [p1, ok_bq, e3, ok_bq]; exact e4
  have p3 : gP3 b len Jo = .ok fo := by unfold gP3; rw [p2, ok_bq, e5, ok_bq]; exact e6
  have p4 : gP4 b len Jo = .ok cs := by unfold gP4; rw [p3, ok_bq, e7, ok_bq]; exact e8
  have p5 : gP5 b len Jo = .ok (es.1.map (fun e => e.2), es.2) := by unfold gP5; rw [p4, ok_bq, e9, ok_bq, gEls_p, e10]; rfl
  refine ⟨s0, ss, fo, cs, p1, p2, p3, p4, p5, rfl, ?_⟩
  obtain ⟨_, e, _, l⟩ := rN_ok e9
  show es.1.length ≤ 32
  rw [gEls_len _ e10, e]; exact l
theorem gP3_j {q : MP × Nat} (h : pAll b len = .ok q) {ss : List SP × Nat} {fo : List Nat × Nat} {j : JI} (h2 : gP2 b len (some j) = .ok ss) (h3 : gP3 b len (some j) = .ok fo) : ss.1 = q.1.1 ∧ fo.1 = q.1.2.1 := by
  unfold pAll at h
  obtain ⟨h0, e1, h⟩ := bq_ok h
  obtain ⟨s0, e2, h⟩ := bq_ok h
  unfold q1 at h
  obtain ⟨n1, e3, h⟩ := bq_ok h
  obtain ⟨ss', e4, h⟩ := bq_ok h
  obtain ⟨r2, h2', h⟩ := bq_ok h
  cases h
  unfold q2 at h2'
  obtain ⟨n2, e5, h2'⟩ := bq_ok h2'
  obtain ⟨fo', e6, h2'⟩ := bq_ok h2'
  obtain ⟨r3, h3', h2'⟩ := bq_ok h2'
  cases h2'
  have p1 : gP1 b len = .ok s0 := by unfold gP1; rw [e1, ok_bq]; exact e2
  have x2 := h2
  unfold gP2 at x2
  rw [p1, ok_bq, e3, ok_bq, gSts_j j _ e4] at x2
  have := jg_ok x2
  subst this
  unfold gP3 at h3
  rw [h2, ok_bq, e5, ok_bq, e6] at h3
  cases h3
  exact ⟨rfl, rfl⟩
theorem jo_alt (ej : Jo.isSome = J) (a : Nat) : ∃ Jo' : Option JI, Jo'.isSome = J ∧ ∀ m, jAll Jo' = some m → m = a := by
  cases Jo with
  | none => exact ⟨none, ej, fun m y => by cases y⟩
  | some j => exact ⟨some (0, a, fun _ => 0, 0, 0), ej, fun m y => by cases y; rfl⟩
theorem KX.ffnsAl (hF : 300 ≤ F) (h : KX sh n z kp kb b len J r) (ej : Jo.isSome = J) {a : Nat} (ha : a ≤ 64) (e9 : z.1 kp 9 = nI a) (hj : ∀ p, r = .ok p → ∀ m, jAll Jo = some m → m = a) {T : List Ty} (hT : ∀ p, r = .ok p → TyT z kp T ∧ T.length ≤ p) : ∃ z' fo, fn_X6_readForeignFunctions F sh n z 60 = some (z', ()) ∧ fo ≤ 32 ∧ z'.1 kp 12 = nI fo ∧ KX sh n z' kp kb b len J (cu (r >>= fun p => rN b len 0 32 p >>= fun e => gCas b len Jo e.1 e.2)) ∧ (∀ q, (r >>= fun p => rN b len 0 32 p >>= fun e => gCas b len Jo e.1 e.2) = .ok q → fo = q.1.length ∧ TyT z' kp (T ++ flC q.1) ∧ (T ++ flC q.1).length ≤ q.2 ∧ RoC z' kp b 64 T.length q.1) ∧ FrKd kp [kp + 1, kp + 4] [4, 12] [0, 1, 3] z z' := by
  cases r with
  | ok p => exact h.ffnsAll hF ej (fun m y => ⟨by rw [hj p rfl m y]; exact e9, by rw [hj p rfl m y]; omega⟩) hT
  | error e =>
    obtain ⟨Jo', j1, j2⟩ := jo_alt ej a
    obtain ⟨z', fo, a1, a2, a3, a4, a5, a6⟩ := h.ffnsAll (F := F) hF j1 (fun m y => ⟨by rw [j2 m y]; exact e9, by rw [j2 m y]; omega⟩) hT
    exact ⟨z', fo, a1, a2, a3, a4, fun q y => (by cases y), a6⟩
/-- ahead of the functions -/
theorem KX.pre (hF : 300 ≤ F) (h : KX sh n z kp kb b len J (.ok 0)) (ej : Jo.isSome = J) (hM : ∀ j, Jo = some j → ∃ q, pAll b len = .ok q ∧ j = jiOf q.1) (hj : ∀ m, jAll Jo = some m → z.1 kp 9 = nI m ∧ m < 256) (e4 : z.1 kp 4 = nI 0) {K : St → Option (St × Int32)} : ∃ z', cal (fn_X6_readBeginning F sh n z 60) (fun z_30 _ => cal (fn_X6_readStructures F sh n z_30 60) (fun z_32 _ => cal (fn_X6_readForeignStructures F sh n z_32 60) (fun z_34 _ => cal (fn_X6_readForeignFunctions F sh n z_34 60) (fun z_36 _ => lnk (z_36.2.2 60 2) (fun k_38 => lnk (z_36.2.2 60 2) (fun k_39 => grd (okO sh n k_39 5) (grd (okO sh n k_38 5) (lt_ (si z_36 k_38 13 (z_36.1 k_39 4)) (fun z_43 => lnk (z_43.2.2 60 2) (fun k_44 => cal (fn_X6_readNumber F sh n z_43 60 0 32) (fun z_45 r_46 => grd (okO sh n k_44 5) (lt_ (si z_45 k_44 14 r_46) (fun z_50 => lnk (z_50.2.2 60 2) (fun k_51 => grd (okO sh n k_51 5) (cal (fn_X6_readTypes F sh n z_50 60 (z_50.1 k_51 14) 0) (fun z_53 _ => K z_53)))))))))))))))) = K z' ∧ KX sh n z' kp kb b len J (cu (gPre b len Jo)) ∧ (∀ x, gPre b len Jo = .ok x → (z'.1 kp 2 = nI (shB b 4) ∧ z'.1 kp 8 = nI x.1.1.length ∧ z'.1 kp 9 = nI (x.1.1.length + x.1.2.1.length) ∧ z'.1 kp 12 = nI x.1.2.2.1.length ∧ z'.1 kp 13 = nI (flS x.1.1 ++ flC x.1.2.2.1).length ∧ z'.1 kp 14 = nI x.1.2.2.2.length) ∧ RoS z' kp (shB b 4) 0 0 x.1.1 ∧ RoF z' kp b x.1.1.length x.1.2.1 ∧ RoC z' kp b 64 (flS x.1.1).length x.1.2.2.1 ∧ TyT z' kp (flS x.1.1 ++ flC x.1.2.2.1 ++ x.1.2.2.2.map (fun e => e.2)) ∧ (flS x.1.1 ++ flC x.1.2.2.1 ++ x.1.2.2.2.map (fun e => e.2)).length ≤ x.2 ∧ x.1.1.length ≤ 32 ∧ x.1.2.2.1.length ≤ 32 ∧ x.1.2.2.2.length ≤ 32) ∧ (∃ a, a ≤ 64 ∧ z'.1 kp 9 = nI a) ∧ FrKd kp [kp + 1, kp + 3, kp + 4] [2, 4, 8, 9, 12, 13, 14] [0, 1, 3] z z' := by
  have hk := isP_ne h.1.2.1
  have ejn := jAll_s ej
  obtain ⟨z1, a1, a2, a3, a4⟩ := KX.begin (F := F) hF 4 0 F z (.ok 0) (by omega) (by omega) h (fun p y => by cases y; rfl)
  rw [ok_bq] at a2 a3
  have a2' : KX sh n z1 kp kb b len J (cu (gP1 b len)) := a2
  have a3' : ∀ q, gP1 b len = .ok q → z1.1 kp 2 = nI (shB b 4) ∧ q.2 = 6 := a3
  have a1' : fn_X6_readBeginning F sh n z 60 = some (z1, ()) := a1
  have ty0 : TyT z1 kp [] := ⟨by rw [a4.2.2.2.1 4 (by simp)]; exact e4, fun j hj => absurd hj (by simp)⟩
  obtain ⟨z2, own, b1, b2, b3, b4, b5, b6⟩ := a2'.structsAll (F := F) hF ej (fun m y => by rw [a4.2.2.2.1 9 (by simp)]; exact hj m y) (nm := shB b 4) (fun p y => by
    obtain ⟨q, y1, y2⟩ := cu_ok y
    exact ⟨ty0, (a3' q y1).1⟩)
  rw [cu_c] at b4 b5
  have b4' : KX sh n z2 kp kb b len J (cu (gP2 b len Jo)) := b4
  have b5' : ∀ q, gP2 b len Jo = .ok q → own = q.1.length ∧ TyT z2 kp (flS q.1) ∧ (flS q.1).length ≤ q.2 ∧ RoS z2 kp (shB b 4) 0 0 q.1 := b5
  obtain ⟨z3, al, c1, c2, c3, c4, c5, c6, c7, c8⟩ := b4'.foresAll (F := F) hF b2 b3
  rw [cu_c] at c5 c6
  have c5' : KX sh n z3 kp kb b len J (cu (gP3 b len Jo)) := c5
  have c6' : ∀ q, gP3 b len Jo = .ok q → al = own + q.1.length ∧ RoF z3 kp b own q.1 := c6
  have T2 : ∀ q, gP3 b len Jo = .ok q → ∃ ss, gP2 b len Jo = .ok ss ∧ ss.2 ≤ q.2 := fun q y => by
    unfold gP3 at y
    obtain ⟨ss, y1, y⟩ := bq_ok y
    obtain ⟨e, y2, y⟩ := bq_ok y
    refine ⟨ss, y1, ?_⟩
    obtain ⟨_, ee, _⟩ := rN_ok y2
    have := pFos_le _ y
    rw [ee] at this
    have this' : ss.2 + 1 ≤ q.2 := this
    omega
  obtain ⟨z4, fo, d1, d2, d3, d4, d5, d6⟩ := c5'.ffnsAl (F := F) hF ej c3 c4 (fun p y m ym => by
    obtain ⟨q, y1, y2⟩ := cu_ok y
    obtain ⟨ss, y3, _⟩ := T2 q y1
    cases Jo with
    | none => cases ym
    | some j =>
      cases ym
      obtain ⟨Q, q1, q2⟩ := hM j rfl
      have := gP3_j q1 y3 y1
      have x1 := (b5' ss y3).1
      have x2 := (c6' q y1).1
      rw [q2]
      show Q.1.1.length + Q.1.2.1.length = al
      rw [x2, x1, this.1, this.2]) (T := lv (gP2 b len Jo >>= fun s => .ok (flS s.1, s.2))) (fun p y => by
    obtain ⟨q, y1, y2⟩ := cu_ok y
    obtain ⟨ss, y3, y4⟩ := T2 q y1
    have x1 := b5' ss y3
    rw [y3, ok_bq]
    exact ⟨x1.2.1.fr c8 (by simp) (by simp), by rw [← y2]; show (flS ss.1).length ≤ q.2; omega⟩)
  rw [cu_c] at d4 d5
  have d4' : KX sh n z4 kp kb b len J (cu (gP4 b len Jo)) := d4
  have d5' : ∀ q, gP4 b len Jo = .ok q → fo = q.1.length ∧ TyT z4 kp (lv (gP2 b len Jo >>= fun s => .ok (flS s.1, s.2)) ++ flC q.1) ∧ (lv (gP2 b len Jo >>= fun s => .ok (flS s.1, s.2)) ++ flC q.1).length ≤ q.2 ∧ RoC z4 kp b 64 (lv (gP2 b len Jo >>= fun s => .ok (flS s.1, s.2))).length q.1 := d5
  have f13 : FrKd kp [] [13, 14] [] z4 (si z4 kp 13 (z4.1 kp 4)) := FrKd.siP h.1.ne (by simp)
  have e13 : (si z4 kp 13 (z4.1 kp 4)).1 kp 13 = z4.1 kp 4 := si_ss
  have k13 := d4'.fr f13 (by simp) (by simp) (by simp)
  generalize eY : si z4 kp 13 (z4.1 kp 4) = Y at f13 e13 k13
  obtain ⟨z5, g1, g2, g3⟩ := k13.number (F := F) (lo := 0) (hi := 32) (il := 0) (ih := 32) rfl rfl (by omega) (by omega)
  have v32 : vN (cu (gP4 b len Jo) >>= rN b len 0 32) ≤ 32 := vN_rN (by omega)
  have f14 : FrKd kp [] [13, 14] [] z5 (si z5 kp 14 (nI (vN (cu (gP4 b len Jo) >>= rN b len 0 32)))) := FrKd.siP h.1.ne (by simp)
  have e14 : (si z5 kp 14 (nI (vN (cu (gP4 b len Jo) >>= rN b len 0 32)))).1 kp 14 = nI (vN (cu (gP4 b len Jo) >>= rN b len 0 32)) := si_ss
  have e13' : (si z5 kp 14 (nI (vN (cu (gP4 b len Jo) >>= rN b len 0 32)))).1 kp 13 = z4.1 kp 4 := by rw [si_oj (by omega), g3.2.2.2.1 13 (by simp)]; exact e13
  have k14 := g2.fr f14 (by simp) (by simp) (by simp)
  generalize eX : si z5 kp 14 (nI (vN (cu (gP4 b len Jo) >>= rN b len 0 32))) = X at f14 e14 e13' k14
  have fX : FrKd kp [] [13, 14] [0, 1, 3] z4 X := ((f13.mono (by simp) (by simp) (by simp)).trans (g3.g (by simp))).trans (f14.mono (by simp) (by simp) (by simp))
  have x9 : X.1 kp 9 = nI al := by rw [fX.2.2.2.1 9 (by simp), d6.2.2.2.1 9 (by simp)]; exact c4
  have els : ∃ z6, fn_X6_readTypes F sh n X 60 (nI (vN (cu (gP4 b len Jo) >>= rN b len 0 32))) 0 = some (z6, ()) ∧ KX sh n z6 kp kb b len J (cu (gP5 b len Jo)) ∧ (∀ q cs, gP5 b len Jo = .ok q → gP4 b len Jo = .ok cs → TyT z6 kp (lv (gP2 b len Jo >>= fun s => .ok (flS s.1, s.2)) ++ flC cs.1 ++ q.1) ∧ (lv (gP2 b len Jo >>= fun s => .ok (flS s.1, s.2)) ++ flC cs.1 ++ q.1).length ≤ q.2) ∧ FrKd kp [kp + 1] [4] [0, 1, 3] X z6 := by
    have e5 : (cu (cu (gP4 b len Jo) >>= rN b len 0 32) >>= pTs b len (jAll Jo) false (vN (cu (gP4 b len Jo) >>= rN b len 0 32))) = gP5 b len Jo := by
      rw [cntN (f := fun a c => pTs b len (jAll Jo) false a c), cu_c]; rfl
    cases e4 : gP4 b len Jo with
    | error w =>
      rw [e4] at k14
      have k14' : KX sh n X kp kb b len J (.error w) := k14
      obtain ⟨Jo', j1, j2⟩ := jo_alt ej al
      obtain ⟨z6, s1, s2, s3, s4⟩ := KX.types (F := F) (jo := jAll Jo') hF (jAll_s j1) (cnt := 0) (by omega) (rf := false) 0 0 F X (.error w) [] rfl (by omega) k14' (fun m y => ⟨by rw [j2 m y]; exact x9, by rw [j2 m y]; omega⟩) (fun p y => by cases y)
      refine ⟨z6, s1, ?_, fun q cs y1 y2 => (by cases y2), s4⟩
      unfold gP5
      rw [e4]; exact s2
    | ok cs =>
      have y3 : ∃ fo', gP3 b len Jo = .ok fo' ∧ True := by
        have y := e4
        unfold gP4 at y
        obtain ⟨a, y1, _⟩ := bq_ok y
        exact ⟨a, y1, trivial⟩
      obtain ⟨fo', y3, _⟩ := y3
      obtain ⟨ss, y4, _⟩ := T2 fo' y3
      rw [e4] at k14 e5 v32
      have jj : ∀ m, jAll Jo = some m → X.1 kp 9 = nI m ∧ m < 256 := fun m ym => by
        have : m = al := by
          cases Jo with
          | none => cases ym
          | some j =>
            cases ym
            obtain ⟨Q, q1, q2⟩ := hM j rfl
            have := gP3_j q1 y4 y3
            have x1 := (b5' ss y4).1
            have x2 := (c6' fo' y3).1
            rw [q2]
            show Q.1.1.length + Q.1.2.1.length = al
            rw [x2, x1, this.1, this.2]
        subst this
        exact ⟨x9, by omega⟩
      obtain ⟨z6, s1, s2, s3, s4⟩ := KX.types (F := F) (jo := jAll Jo) hF ejn (cnt := vN (cu (.ok cs : Ex (List CP × Nat)) >>= rN b len 0 32)) (by omega) (rf := false) _ 0 F X (cu (cu (.ok cs : Ex (List CP × Nat)) >>= rN b len 0 32)) (lv (gP2 b len Jo >>= fun s => .ok (flS s.1, s.2)) ++ flC cs.1) (Nat.zero_add _) (by omega) k14 jj (fun p y => by
        obtain ⟨q, y5, y6⟩ := cu_ok y
        have y5' : rN b len 0 32 cs.2 = .ok q := y5
        obtain ⟨_, eq, _⟩ := rN_ok y5'
        subst eq
        have x1 := d5' cs e4
        exact ⟨x1.2.1.fr fX (by simp) (by simp), by rw [← y6]; show _ ≤ cs.2 + 1; omega⟩)
      rw [e5] at s2 s3
      refine ⟨z6, s1, s2, fun q cs' y1 y2 => ?_, s4⟩
      cases y2
      exact s3 q y1
  obtain ⟨z6, s1, s2, s3, s4⟩ := els
  have r2' : z2.2.2 60 2 = some kp := b4'.1.2.2.1
  have f1 : FrKd kp [kp + 1, kp + 3, kp + 4] [2, 4, 8, 9, 12, 13, 14] [0, 1, 3] z z1 := a4.mono (by simp) (by simp) (by simp)
  have f2 := f1.trans (b6.mono (ks' := [kp + 1, kp + 3, kp + 4]) (js' := [2, 4, 8, 9, 12, 13, 14]) (hs' := [0, 1, 3]) (by simp) (by simp) (by simp))
  have f3 := f2.trans (c8.mono (ks' := [kp + 1, kp + 3, kp + 4]) (js' := [2, 4, 8, 9, 12, 13, 14]) (hs' := [0, 1, 3]) (by simp) (by simp) (by simp))
  have f4 := f3.trans (d6.mono (ks' := [kp + 1, kp + 3, kp + 4]) (js' := [2, 4, 8, 9, 12, 13, 14]) (hs' := [0, 1, 3]) (by simp) (by simp) (by simp))
  have f5 := f4.trans (fX.mono (ks' := [kp + 1, kp + 3, kp + 4]) (js' := [2, 4, 8, 9, 12, 13, 14]) (hs' := [0, 1, 3]) (by simp) (by simp) (by simp))
  have f6 := f5.trans (s4.mono (ks' := [kp + 1, kp + 3, kp + 4]) (js' := [2, 4, 8, 9, 12, 13, 14]) (hs' := [0, 1, 3]) (by simp) (by simp) (by simp))
  rw [gP5_e] at s2
  refine ⟨z6, ?_, s2, ?_, ⟨al, c3, by rw [s4.2.2.2.1 9 (by simp)]; exact x9⟩, f6⟩
  · rw [a1', cal_s, b1, cal_s, c1, cal_s, d1, cal_s, d4'.1.2.2.1, lnk_s, lnk_s, h.1.p, grd_true, grd_true, lt_t, eY, k13.1.2.2.1, lnk_s, g1, cal_s, h.1.p, grd_true, lt_t, eX, k14.1.2.2.1, lnk_s, h.1.p, grd_true, e14, s1, cal_s]
  · intro x hx
    obtain ⟨s, ss, fo', cs, p1, p2, p3, p4, p5, px, pl⟩ := gPre_x hx
    have x1 := a3' s p1
    have x2 := b5' ss p2
    have x3 := c6' fo' p3
    have x4 := d5' cs p4
    have x5 := s3 _ cs p5 p4
    rw [p2, ok_bq] at x4 x5
    have x4' : fo = cs.1.length ∧ TyT z4 kp (flS ss.1 ++ flC cs.1) ∧ (flS ss.1 ++ flC cs.1).length ≤ cs.2 ∧ RoC z4 kp b 64 (flS ss.1).length cs.1 := x4
    have x5' : TyT z6 kp (flS ss.1 ++ flC cs.1 ++ x.1.2.2.2.map (fun e => e.2)) ∧ (flS ss.1 ++ flC cs.1 ++ x.1.2.2.2.map (fun e => e.2)).length ≤ x.2 := x5
    have q1 : x.1.1 = ss.1 := by rw [px]
    have q2 : x.1.2.1 = fo'.1 := by rw [px]
    have q3 : x.1.2.2.1 = cs.1 := by rw [px]
    have o1 := x2.1
    have v14 : vN (cu (gP4 b len Jo) >>= rN b len 0 32) = x.1.2.2.2.length := by
      unfold gP5 at p5
      obtain ⟨cs', y1, y⟩ := bq_ok p5
      obtain ⟨e, y2, y⟩ := bq_ok y
      rw [y1]
      show vN (rN b len 0 32 cs'.2) = _
      rw [y2]
      have := (pTs_le _ y).2
      rw [List.length_map] at this
      exact this.symm
    have row3 : ∀ y, z6.1 (kp + 3) y = z3.1 (kp + 3) y := fun y => by
      rw [s4.2.1 (kp + 3) (by omega) (by omega) (by simp), fX.2.1 (kp + 3) (by omega) (by omega) (by simp), d6.2.1 (kp + 3) (by omega) (by omega) (by simp)]
    have row4 : ∀ y, z6.1 (kp + 4) y = z4.1 (kp + 4) y := fun y => by
      rw [s4.2.1 (kp + 4) (by omega) (by omega) (by simp), fX.2.1 (kp + 4) (by omega) (by omega) (by simp)]
    rw [q1, q2, q3]
    refine ⟨⟨?_, ?_, ?_, ?_, ?_, ?_⟩, ?_, ?_, ?_, x5'.1, x5'.2, by rw [← o1]; exact b2, by rw [← x4'.1]; exact d2, pl⟩
    · rw [s4.2.2.2.1 2 (by simp), fX.2.2.2.1 2 (by simp), d6.2.2.2.1 2 (by simp), c8.2.2.2.1 2 (by simp), b6.2.2.2.1 2 (by simp)]; exact x1.1
    · rw [s4.2.2.2.1 8 (by simp), fX.2.2.2.1 8 (by simp), d6.2.2.2.1 8 (by simp), c8.2.2.2.1 8 (by simp), b3, o1]
    · rw [s4.2.2.2.1 9 (by simp), x9, x3.1, o1]
    · rw [s4.2.2.2.1 12 (by simp), fX.2.2.2.1 12 (by simp), d3, x4'.1]
    · rw [s4.2.2.2.1 13 (by simp), e13']; exact x4'.2.1.1
    · rw [s4.2.2.2.1 14 (by simp), e14, v14]
    · exact x2.2.2.2.fr (fun y hy => by rw [row3, c7 y (by rw [o1]; omega)])
    · have := x3.2
      rw [o1] at this
      exact fun k hk => (this k hk).fr (fun y hy => row3 y)
    · exact fun k hk => (x4'.2.2.2 k hk).fr (fun y hy => row4 y)
end
