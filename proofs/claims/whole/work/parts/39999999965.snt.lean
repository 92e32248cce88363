/-! BOTH LEDGERS: settling, what is written -/
section
variable {E : Ev} {F n : Nat} {sh : Nat → Nat × Nat} {sd : Int64} {lim : Nat} {H : Hp} {m : Nat} {ty phi : Nat → Nat} {Rn : Nat → Option Nat} {Hc : Hp} {mc : Nat} {sl0 : Int32} {na : Nat} {ak : Nat → Ask} {cn : Nat → Nat} {ws : Nat → Int64 → Nat → Bool} {md : Nat}
theorem AcR.set {nc : Nat} {ac acC : Nat → Int64 × Int64 × Int64} (h : AcR sd lim nc ac acC) {x : Nat} {b c : Int64} (e : c = if (ac x).1 = sd then b - lN lim else b) : AcR sd lim nc (fun j => if j = x then ((ac j).1, b, (ac j).2.2) else ac j) (fun j => if j = x then ((acC j).1, c, (acC j).2.2) else acC j) := ⟨⟨by rw [fdA_set]; exact h.1.1, h.1.2.set (fun i _ => by
  by_cases q : i = x
  · simp only [if_pos q]
  · simp only [if_neg q])⟩, fun i hi => by
  obtain ⟨q1, q2, q3⟩ := h.2 i hi
  by_cases w : i = x
  · subst w
    simp only [if_true]
    exact ⟨q1, q2, e⟩
  · simp only [if_neg w]
    exact ⟨q1, q2, q3⟩⟩
theorem AcR.app {nc : Nat} {ac acC : Nat → Int64 × Int64 × Int64} (h : AcR sd lim nc ac acC) {a b c : Int64} (hn : fdA nc ac a = none) (e : c = if a = sd then b - lN lim else b) : AcR sd lim (nc + 1) (fun j => if j = nc then (a, b, 0) else ac j) (fun j => if j = nc then (a, c, 0) else acC j) := by
  have ns : a ≠ sd := fun q => by have := h.1.1; rw [← q, hn] at this; exact absurd this (by simp)
  refine ⟨⟨?_, h.1.2.app hn⟩, fun i hi => ?_⟩
  · rw [fdA_app]
    cases q : fdA nc ac sd with
    | some i => rfl
    | none => have := h.1.1; rw [q] at this; exact absurd this (by simp)
  by_cases w : i = nc
  · simp only [if_pos w]
    exact ⟨trivial, (if_neg ns).symm, e⟩
  · simp only [if_neg w]
    exact h.2 i (by omega)
/-- what is written -/
theorem set_wr (hF : 300 ≤ F) (hE : EvOk E) (hA : EvA E) (ht : HT E H m ty) (hN : NoA ty H) (rc : RC H ty phi Rn Hc) (h0 : 0 < na ∧ (ak 0).1 = 1 ∧ (ak 0).2.1 = sd) (hr : ∀ p, p < na → (ak p).1 = 3 → (ak p).2.2.2.2.1 = true → (H (ak p).2.2.2.2.2).1 ≠ 0 ∧ ty (ak p).2.2.2.2.2 = 256 + (ak p).2.2.1 ∧ cn p = phi (ak p).2.2.2.2.2 ∧ szM H 48 (ak p).2.2.2.2.2 ≤ 64) : ∀ r p f f' z y nc ac acC nr rs so, p + r = na → r < f → r < f' → SetI E sh n sd lim H m Hc mc sl0 na ak cn ws z y nc ac acC nr rs so → (∀ j, p ≤ j → j < na → (ak j).2.2.2.2.1 = true → ((ak j).1 = 1 → (fdA nc ac (ak j).2.1).isSome = ws (ak j).1 (ak j).2.1 (ak j).2.2.1) ∧ ((ak j).1 = 3 → (fdR nr rs (ak j).2.1 (ak j).2.2.1).isSome = ws (ak j).1 (ak j).2.1 (ak j).2.2.1)) → nc + md + nr + nwC ak ws r p ≤ 256 → ∃ z' y' nc' ac' acC' nr' rs' so', fn_X18_settle_L80 F sh n 337 f z (nI p) = some (z', ()) ∧ fn_X2_commit_L71 F sh n 104 f' y (nI p) = some (y', ()) ∧ SetI E sh n sd lim H m Hc mc sl0 na ak cn ws z' y' nc' ac' acC' nr' rs' so' ∧ nc' + md + nr' ≤ 256 ∧ (∀ a i, fdA nc ac a = some i → fdA nc' ac' a = some i) ∧ FrG z z' ∧ FrLc y y' ∧ WrR H ak na p nr rs nr' rs' ∧ WrA (akS ak lim) ak na p nc ac nc' ac' := by
  intro r
  induction r with
  | zero =>
    intro p f f' z y nc ac acC nr rs so e hf hf' I hw hc
    obtain ⟨f, rfl⟩ : ∃ g, f = g + 1 := ⟨f - 1, by omega⟩
    obtain ⟨f', rfl⟩ : ∃ g, f' = g + 1 := ⟨f' - 1, by omega⟩
    have ep : p = na := by omega
    subst ep
    exact ⟨z, y, nc, ac, acC, nr, rs, so, setWE I.2.1.1, cWE I.2.2.1.1, I, by simpa [nwC] using hc, fun _ _ q => q, FrG.rfl', FrLc.rfl', WrR.zero, WrA.zero⟩
  | succ r ih =>
    intro p f f' z y nc ac acC nr rs so e hf hf' I hw hc
    obtain ⟨f, rfl⟩ : ∃ g, f = g + 1 := ⟨f - 1, by omega⟩
    obtain ⟨f', rfl⟩ : ∃ g, f' = g + 1 := ⟨f' - 1, by omega⟩
    have hp : p < na := by omega
    obtain ⟨s1, s2, s3, s4, s5⟩ := akS_n ak lim p
    have ky := (I.2.2.1.1.2.2 p hp).1
    have dst := I.2.2.1.1.1.2
    rw [nwC_s] at hc
    by_cases c : (ak p).1 = 2 ∨ (ak p).2.2.2.2.1 = false
    · rw [if_neg (fun x => by
        rcases c with q | q
        · exact x.1 q
        · rw [q] at x; exact absurd x.2.1 (by simp))] at hc
      obtain ⟨z', y', nc', ac', acC', nr', rs', so', t1, t2, t3, t4, t5, t6, t7, t8, t9⟩ := ih (p + 1) f f' z y nc ac acC nr rs so (by omega) (by omega) (by omega) I (fun j a b => hw j (by omega) b) hc
      exact ⟨z', y', nc', ac', acC', nr', rs', so', (setW0 I.1.1 I.2.1.1 hp (by rw [s1, s4]; exact c)).trans t1, (cW0 I.1.2 I.2.2.1.1 hp c).trans t2, t3, t4, t5, t6, t7, t8.skip (fun w => by
        rcases c with q | q
        · have := w.1; omega
        · have := w.2; rw [q] at this; cases this), t9.skip (fun w => by
        rcases c with q | q
        · have := w.1; omega
        · have := w.2; rw [q] at this; cases this)⟩
    · have c2 : (ak p).1 ≠ 2 := fun q => c (.inl q)
      have ct : (ak p).2.2.2.2.1 = true := by
        cases q : (ak p).2.2.2.2.1 with
        | true => rfl
        | false => exact absurd (.inr q) c
      have other : ∀ j, p + 1 ≤ j → j < na → ¬ ((ak j).1 = (ak p).1 ∧ (ak j).2.1 = (ak p).2.1 ∧ (ak j).2.2.1 = (ak p).2.2.1) := fun j a b q => by
        have := dst j p b hp q.1 q.2.1 q.2.2
        omega
      obtain ⟨hw1, hw3⟩ := hw p (Nat.le_refl _) hp ct
      by_cases c1 : (ak p).1 = 1
      · -- an account
        have k0 : (ak p).2.2.1 = 0 := by rcases ky with q | q | q <;> omega
        have bal : (ak p).2.2.2.1 = if (ak p).2.1 = sd then (akS ak lim p).2.2.2.1 - lN lim else (akS ak lim p).2.2.2.1 := by
          rw [s5]
          by_cases p0 : p = 0
          · subst p0
            rw [if_pos h0.2.2, if_pos rfl, Int64.add_sub_cancel]
          · rw [if_neg p0]
            have : (ak p).2.1 ≠ sd := fun q => p0 (dst p 0 hp h0.1 (by rw [c1, h0.2.1]) (by rw [q, h0.2.2]) (by
              rcases (I.2.2.1.1.2.2 0 h0.1).1 with w | w | w
              · rw [k0, w.2]
              · have := h0.2.1; omega
              · have := h0.2.1; omega))
            rw [if_neg this]
        have one : ∀ j, p + 1 ≤ j → j < na → (ak j).1 = 1 → (ak j).2.1 ≠ (ak p).2.1 := fun j a b q w => other j a b ⟨by rw [q, c1], w, by
          rcases (I.2.2.1.1.2.2 j b).1 with v | v | v
          · rw [v.2, k0]
          · omega
          · omega⟩
        have R := setW1 (F := F) (f := f) hF I.1.1 I.2.1.1 I.2.2.2.1 hp (by rw [s1]; exact c1) (by rw [s4]; exact ct)
        have C := cW1 (F := F) (f := f') hF I.1.2 I.2.2.1.1 I.2.2.2.2.1 hp c1 ct
        rw [I.2.2.2.2.2.2.fd] at C
        rw [s2] at R
        cases q : fdA nc ac (ak p).2.1 with
        | some x =>
          obtain ⟨z1, a1, a2, a3⟩ := R.1 x q
          obtain ⟨y1, b1, b2, b3⟩ := C.1 x q
          have hx := fd_lt _ _ _ q
          have nx : (ac x).1 = (ak p).2.1 := by simpa using hx.2.2
          have I1 := I.go a3 b3 a2 b2 I.2.2.2.2.2.1 (I.2.2.2.2.2.2.set (by rw [nx]; exact bal))
          obtain ⟨z', y', nc', ac', acC', nr', rs', so', t1, t2, t3, t4, t5, t6, t7, t8, t9⟩ := ih (p + 1) f f' z1 y1 _ _ _ _ _ _ (by omega) (by omega) (by omega) I1 (fun j a b t => by
            rw [fdA_set]
            exact hw j (by omega) b t) (by omega)
          exact ⟨z', y', nc', ac', acC', nr', rs', so', a1.trans t1, b1.trans t2, t3, t4, fun a i w => t5 a i (by rw [fdA_set]; exact w), a3.trans t6, b3.trans t7, t8.skip (fun w => by have := w.1; omega), t9.put hp c1 ct (x := x) (by simp only [if_true]; exact ⟨nx, trivial⟩) (fun i hi w => by
            simp only [if_neg w]
            exact ⟨hi, trivial, fun e => w (I.2.2.2.2.2.2.1.2 i x hi (by omega) (by rw [← e, nx]))⟩)⟩
        | none =>
          have w0 : ws (ak p).1 (ak p).2.1 (ak p).2.2.1 = false := by
            have := hw1 c1
            rw [q] at this
            exact this.symm
          rw [if_pos ⟨c2, ct, w0⟩] at hc
          obtain ⟨z1, a1, a2, a3⟩ := R.2 q (by omega)
          obtain ⟨y1, b1, b2, b3⟩ := C.2 q (by omega)
          have I1 := I.go a3 b3 a2 b2 I.2.2.2.2.2.1 (I.2.2.2.2.2.2.app q bal)
          obtain ⟨z', y', nc', ac', acC', nr', rs', so', t1, t2, t3, t4, t5, t6, t7, t8, t9⟩ := ih (p + 1) f f' z1 y1 _ _ _ _ _ _ (by omega) (by omega) (by omega) I1 (fun j a b t => ⟨fun j1 => by
            rw [fdA_app, ← (hw j (by omega) b t).1 j1]
            cases qq : fdA nc ac (ak j).2.1 with
            | some i => rfl
            | none =>
              show (if (ak p).2.1 = (ak j).2.1 then some nc else none).isSome = _
              rw [if_neg (fun w => one j a b j1 w.symm)], (hw j (by omega) b t).2⟩) (by omega)
          refine ⟨z', y', nc', ac', acC', nr', rs', so', a1.trans t1, b1.trans t2, t3, t4, fun a i w => t5 a i ?_, a3.trans t6, b3.trans t7, t8.skip (fun w => by have := w.1; omega), t9.put hp c1 ct (x := nc) (by simp only [if_true]; exact ⟨trivial, trivial⟩) (fun i hi w => by
            simp only [if_neg w]
            refine ⟨by omega, trivial, fun e => ?_⟩
            have := fd_no _ _ q i (by omega) (by omega)
            simp [e] at this)⟩
          rw [fdA_app, w]
      · -- a resource
        have c3 : (ak p).1 = 3 := by rcases ky with q | q | q <;> omega
        have hk : (ak p).2.2.1 < 2 ^ 24 := by rcases ky with q | q | q <;> omega
        obtain ⟨v1, v2, v3, v4⟩ := hr p hp c3 ct
        have tr : Tr H 48 (ak p).2.2.2.2.2 := ht.tr hE 48 _ v1 (by have := (ht.2 _ v1).2.2.2.2; omega)
        have R := setW3 (F := F) (f := f) hF I.1.1 I.2.1.1 I.2.2.2.1 I.2.1.2 hp (by rw [s1]; exact c3) (by rw [s3]; omega) (by rw [s4]; exact ct) (by rw [s4]; exact tr) (by rw [s4]; exact v4)
        rw [s2, s3, s4] at R
        cases q : fdR nr rs (ak p).2.1 (ak p).2.2.1 with
        | some x =>
          obtain ⟨z1, Q, o, a1, o0, alk, a2, a3⟩ := R.1 x q
          obtain ⟨x1, x2, x3⟩ := fdR_k q
          have pre : Pre Q 48 0 (szM H 48 (ak p).2.2.2.2.2) := by
            have := (a2.2.2.2 x x1).2.2.2.1
            simp only [if_true] at this
            exact this
          obtain ⟨En, e1, e2, e3, e4⟩ := ResR.keep hE hA ht hN rc v1 v2 o0 pre rfl v4 alk
          obtain ⟨r0, _, q0, _⟩ := (I.2.2.2.2.2.1.r (ak p).2.1 (ak p).2.2.1 hk).2 x q
          obtain ⟨y1, b1, b2, b3⟩ := (cW3 (F := F) (f := f') hF I.1.2 I.2.2.1.1 I.2.2.2.2.1 I.2.2.1.2 hp c3 ct (by rw [v3]; exact e1) e2 e3).1 r0 q0
          have I1 := I.go a3 b3 a2 b2 (I.2.2.2.2.2.1.set q q0 e4) I.2.2.2.2.2.2
          obtain ⟨z', y', nc', ac', acC', nr', rs', so', t1, t2, t3, t4, t5, t6, t7, t8, t9⟩ := ih (p + 1) f f' z1 y1 _ _ _ _ _ _ (by omega) (by omega) (by omega) I1 (fun j a b t => by
            rw [fdR_set]
            exact hw j (by omega) b t) (by omega)
          exact ⟨z', y', nc', ac', acC', nr', rs', so', a1.trans t1, b1.trans t2, t3, t4, t5, a3.trans t6, b3.trans t7, t8.put hp c3 ct o0 alk (x := x) (by simp only [if_true]; rw [x2, x3]) (fun i hi w => by
            simp only [if_neg w]
            exact ⟨hi, trivial, fun e => w (I.2.2.2.2.2.1.2.2.1 i x hi x1 (by rw [← e.1, x2]) (by rw [← e.2, x3]))⟩), t9.skip (fun w => c1 w.1)⟩
        | none =>
          have w0 : ws (ak p).1 (ak p).2.1 (ak p).2.2.1 = false := by
            have := hw3 c3
            rw [q] at this
            exact this.symm
          rw [if_pos ⟨c2, ct, w0⟩] at hc
          obtain ⟨z1, Q, o, a1, o0, alk, a2, a3⟩ := R.2 q (by omega)
          have pre : Pre Q 48 0 (szM H 48 (ak p).2.2.2.2.2) := by
            have := (a2.2.2.2 nr (by omega)).2.2.2.1
            simp only [if_true] at this
            exact this
          obtain ⟨En, e1, e2, e3, e4⟩ := ResR.keep hE hA ht hN rc v1 v2 o0 pre rfl v4 alk
          have q0 := (I.2.2.2.2.2.1.iff hk).mp q
          obtain ⟨r0, rn⟩ := I.2.2.2.2.2.1.free (by omega)
          obtain ⟨y1, b1, b2, b3⟩ := (cW3 (F := F) (f := f') hF I.1.2 I.2.2.1.1 I.2.2.2.2.1 I.2.2.1.2 hp c3 ct (by rw [v3]; exact e1) e2 e3).2 r0 q0 rn (by omega)
          have I1 := I.go a3 b3 a2 b2 (I.2.2.2.2.2.1.new hk q rn e4) I.2.2.2.2.2.2
          obtain ⟨z', y', nc', ac', acC', nr', rs', so', t1, t2, t3, t4, t5, t6, t7, t8, t9⟩ := ih (p + 1) f f' z1 y1 _ _ _ _ _ _ (by omega) (by omega) (by omega) I1 (fun j a b t => ⟨(hw j (by omega) b t).1, fun j3 => by
            rw [fdR_app, ← (hw j (by omega) b t).2 j3]
            cases qq : fdR nr rs (ak j).2.1 (ak j).2.2.1 with
            | some i => rfl
            | none =>
              show (if (ak p).2.1 = (ak j).2.1 ∧ (ak p).2.2.1 = (ak j).2.2.1 then some nr else none).isSome = _
              rw [if_neg (fun w => other j a b ⟨by rw [j3, c3], w.1.symm, w.2.symm⟩)]⟩) (by omega)
          exact ⟨z', y', nc', ac', acC', nr', rs', so', a1.trans t1, b1.trans t2, t3, t4, t5, a3.trans t6, b3.trans t7, t8.put hp c3 ct o0 alk (x := nr) (by simp only [if_true]) (fun i hi w => by
            simp only [if_neg w]
            exact ⟨by omega, trivial, fun e => fdR_n q (by omega) e.1.symm e.2.symm⟩), t9.skip (fun w => c1 w.1)⟩
end
