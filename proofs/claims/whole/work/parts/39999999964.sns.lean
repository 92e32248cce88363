/-! BOTH LEDGERS: settling, side by side -/
theorem fd_snoc {p : Nat → Bool} : ∀ r i, fd p (r + 1) i = match fd p r i with
    | some j => some j
    | none => if p (i + r) then some (i + r) else none
  | 0, i => by rw [fd_1]; rfl
  | r + 1, i => by
    rw [fd_1, fd_snoc r (i + 1), fd_1]
    by_cases q : p i = true
    · rw [if_pos q, if_pos q]
    · rw [if_neg q, if_neg q, show i + 1 + r = i + (r + 1) by omega]
section
variable {nc nr : Nat} {ac acC : Nat → Int64 × Int64 × Int64} {rs : Nat → Int64 × Nat × Hp × Nat}
theorem fdR_iff {a : Int64} {k : Nat} : (fdR nr rs a k).isSome = true ↔ ∃ i, i < nr ∧ (rs i).1 = a ∧ (rs i).2.1 = k := by
  constructor
  · intro h
    cases q : fdR nr rs a k with
    | none => rw [q] at h; exact absurd h (by simp)
    | some i => exact ⟨i, fdR_k q⟩
  · rintro ⟨i, h1, h2, h3⟩
    cases q : fdR nr rs a k with
    | none => exact (fdR_n q h1 h2 h3).elim
    | some i => rfl
theorem fdA_set {x : Nat} {b : Int64} (a : Int64) : fdA nc (fun j => if j = x then ((ac j).1, b, (ac j).2.2) else ac j) a = fdA nc ac a := fd_cong nc 0 (fun i _ _ => by
  by_cases c : i = x
  · simp only [if_pos c]
  · simp only [if_neg c])
theorem fdA_app {b c : Int64} {a0 : Int64} (a : Int64) : fdA (nc + 1) (fun j => if j = nc then (a0, b, c) else ac j) a = match fdA nc ac a with
    | some j => some j
    | none => if a0 = a then some nc else none := by
  unfold fdA
  rw [fd_snoc, fd_cong (f := fun i => decide ((if i = nc then (a0, b, c) else ac i).1 = a)) (g := fun i => decide ((ac i).1 = a)) nc 0 (fun i _ hi => by simp only [if_neg (show i ≠ nc by omega)])]
  simp
theorem fdR_set {x : Nat} {Q : Hp} {sz : Nat} (a : Int64) (k : Nat) : fdR nr (fun j => if j = x then ((rs j).1, (rs j).2.1, Q, sz) else rs j) a k = fdR nr rs a k := fd_cong nr 0 (fun i _ _ => by
  by_cases c : i = x
  · simp only [if_pos c]
  · simp only [if_neg c])
theorem fdR_app {Q : Hp} {sz k0 : Nat} {a0 : Int64} (a : Int64) (k : Nat) : fdR (nr + 1) (fun j => if j = nr then (a0, k0, Q, sz) else rs j) a k = match fdR nr rs a k with
    | some j => some j
    | none => if a0 = a ∧ k0 = k then some nr else none := by
  unfold fdR
  rw [fd_snoc, fd_cong (f := fun i => decide ((if i = nr then (a0, k0, Q, sz) else rs i).1 = a) && decide ((if i = nr then (a0, k0, Q, sz) else rs i).2.1 = k)) (g := fun i => decide ((rs i).1 = a) && decide ((rs i).2.1 = k)) nr 0 (fun i _ hi => by simp only [if_neg (show i ≠ nr by omega)])]
  simp
/-- removing one leaves the others -/
theorem fdR_rm {x k0 k : Nat} {a0 a : Int64} (uq : ∀ i j, i < nr → j < nr → (rs i).1 = (rs j).1 → (rs i).2.1 = (rs j).2.1 → i = j) (hx : fdR nr rs a0 k0 = some x) (hne : ¬ (a = a0 ∧ k = k0)) : (fdR (nr - 1) (fun i => if i = x then rs (nr - 1) else rs i) a k).isSome = (fdR nr rs a k).isSome := by
  obtain ⟨x1, x2, x3⟩ := fdR_k hx
  rw [Bool.eq_iff_iff, fdR_iff, fdR_iff]
  constructor
  · rintro ⟨i, i1, i2, i3⟩
    by_cases c : i = x
    · simp only [if_pos c] at i2 i3; exact ⟨nr - 1, by omega, i2, i3⟩
    · simp only [if_neg c] at i2 i3; exact ⟨i, by omega, i2, i3⟩
  · rintro ⟨i, i1, i2, i3⟩
    have : i ≠ x := fun e => hne (by subst e; exact ⟨i2.symm.trans x2, i3.symm.trans x3⟩)
    by_cases c : i = nr - 1
    · refine ⟨x, by omega, ?_, ?_⟩
      · simp only [if_true]; rw [← c]; exact i2
      · simp only [if_true]; rw [← c]; exact i3
    · refine ⟨i, by omega, ?_, ?_⟩
      · simp only [if_neg this]; exact i2
      · simp only [if_neg this]; exact i3
end
/-- accounts differ -/
def UqA (nc : Nat) (ac : Nat → Int64 × Int64 × Int64) : Prop := ∀ i j, i < nc → j < nc → (ac i).1 = (ac j).1 → i = j
theorem UqA.set {nc : Nat} {ac : Nat → Int64 × Int64 × Int64} (h : UqA nc ac) {f : Nat → Int64 × Int64 × Int64} (e : ∀ i, i < nc → (f i).1 = (ac i).1) : UqA nc f := fun i j hi hj q => h i j hi hj (by rw [← e i hi, ← e j hj]; exact q)
theorem UqA.app {nc : Nat} {ac : Nat → Int64 × Int64 × Int64} {a b c : Int64} (h : UqA nc ac) (hn : fdA nc ac a = none) : UqA (nc + 1) (fun j => if j = nc then (a, b, c) else ac j) := fun i j hi hj q => by
  have no : ∀ k, k < nc → (ac k).1 ≠ a := fun k hk e => by
    have := fd_no _ _ hn k (by omega) (by omega)
    simp [e] at this
  by_cases ci : i = nc
  · by_cases cj : j = nc
    · omega
    · simp only [if_pos ci, if_neg cj] at q
      exact absurd q.symm (no j (by omega))
  · by_cases cj : j = nc
    · simp only [if_neg ci, if_pos cj] at q
      exact absurd q (no i (by omega))
    · simp only [if_neg ci, if_neg cj] at q
      exact h i j (by omega) (by omega) q
/-- accounts of both sides while the sender has paid for all his gas here -/
def AcR (sd : Int64) (lim nc : Nat) (ac acC : Nat → Int64 × Int64 × Int64) : Prop := ((fdA nc ac sd).isSome = true ∧ UqA nc ac) ∧ ∀ i, i < nc → (acC i).1 = (ac i).1 ∧ ((acC i).2.2 = if (ac i).1 = sd then (ac i).2.2 + 1 else (ac i).2.2) ∧ (acC i).2.1 = if (ac i).1 = sd then (ac i).2.1 - lN lim else (ac i).2.1
theorem AcR.fd {sd : Int64} {lim nc : Nat} {ac acC : Nat → Int64 × Int64 × Int64} (h : AcR sd lim nc ac acC) (a : Int64) : fdA nc acC a = fdA nc ac a := fd_cong nc 0 (fun i _ hi => by rw [(h.2 i (by omega)).1])
def akS (ak : Nat → Ask) (lim : Nat) : Nat → Ask := upA ak 0 ((ak 0).1, (ak 0).2.1, (ak 0).2.2.1, (ak 0).2.2.2.1 + lN lim, (ak 0).2.2.2.2)
theorem akS_n (ak : Nat → Ask) (lim j : Nat) : (akS ak lim j).1 = (ak j).1 ∧ (akS ak lim j).2.1 = (ak j).2.1 ∧ (akS ak lim j).2.2.1 = (ak j).2.2.1 ∧ (akS ak lim j).2.2.2.2 = (ak j).2.2.2.2 ∧ (akS ak lim j).2.2.2.1 = if j = 0 then (ak j).2.2.2.1 + lN lim else (ak j).2.2.2.1 := by
  unfold akS
  by_cases c : j = 0
  · subst c; rw [upA_s]; exact ⟨rfl, rfl, rfl, rfl, rfl⟩
  · rw [upA_n c, if_neg c]; exact ⟨rfl, rfl, rfl, rfl, rfl⟩
/-- both ledgers while they are settled -/
def SetI (E : Ev) (sh : Nat → Nat × Nat) (n : Nat) (sd : Int64) (lim : Nat) (H : Hp) (m : Nat) (Hc : Hp) (mc : Nat) (sl0 : Int32) (na : Nat) (ak : Nat → Ask) (cn : Nat → Nat) (ws : Nat → Int64 → Nat → Bool) (z y : St) (nc : Nat) (ac acC : Nat → Int64 × Int64 × Int64) (nr : Nat) (rs : Nat → Int64 × Nat × Hp × Nat) (so : Nat → Option Rsc) : Prop := (Lay sh n z ∧ Lay sh n y) ∧ (RAs z na (akS ak lim) ∧ HM z H m) ∧ (CJ y na ak cn ws ∧ HC y Hc mc sl0) ∧ RLg z nc ac nr rs ∧ CLg y nc acC nr so ∧ RsP E E.1 nr rs so ∧ AcR sd lim nc ac acC
section
variable {E : Ev} {F n : Nat} {sh : Nat → Nat × Nat} {sd : Int64} {lim : Nat} {H : Hp} {m : Nat} {Hc : Hp} {mc : Nat} {sl0 : Int32} {na : Nat} {ak : Nat → Ask} {cn : Nat → Nat} {ws : Nat → Int64 → Nat → Bool} {z y z' y' : St} {nc : Nat} {ac acC : Nat → Int64 × Int64 × Int64} {md : Nat}
theorem SetI.go {nc' : Nat} {ac' acC' : Nat → Int64 × Int64 × Int64} {nr nr' : Nat} {rs rs' : Nat → Int64 × Nat × Hp × Nat} {so so' : Nat → Option Rsc} (h : SetI E sh n sd lim H m Hc mc sl0 na ak cn ws z y nc ac acC nr rs so) (f : FrG z z') (g : FrLc y y') (h1 : RLg z' nc' ac' nr' rs') (h2 : CLg y' nc' acC' nr' so') (h3 : RsP E E.1 nr' rs' so') (h4 : AcR sd lim nc' ac' acC') : SetI E sh n sd lim H m Hc mc sl0 na ak cn ws z' y' nc' ac' acC' nr' rs' so' := by
  obtain ⟨⟨a1, a2⟩, ⟨a3, a4⟩, ⟨a5, a6⟩, _⟩ := h
  exact ⟨⟨a1.of f.1, a2.of g.1⟩, ⟨f.ras a3, f.hm a4⟩, ⟨g.cj a5, g.hc a6⟩, h1, h2, h3, h4⟩
theorem nrC_s {r p : Nat} : nrC ak ws (r + 1) p = nrC ak ws r (p + 1) + if (ak p).1 = 3 ∧ (ak p).2.2.2.2.1 = false ∧ ws (ak p).1 (ak p).2.1 (ak p).2.2.1 = true then 1 else 0 := rfl
theorem nwC_s {r p : Nat} : nwC ak ws (r + 1) p = nwC ak ws r (p + 1) + if (ak p).1 ≠ 2 ∧ (ak p).2.2.2.2.1 = true ∧ ws (ak p).1 (ak p).2.1 (ak p).2.2.1 = false then 1 else 0 := rfl
/-- what goes -/
theorem set_rm (hF : 300 ≤ F) {N : Nat} : ∀ r p f f' z y nr rs so, p + r = na → r < f → r < f' → SetI E sh n sd lim H m Hc mc sl0 na ak cn ws z y nc ac acC nr rs so → (∀ j, j < na → (ak j).1 = 3 → p ≤ j ∨ (ak j).2.2.2.2.1 = true → (fdR nr rs (ak j).2.1 (ak j).2.2.1).isSome = ws (ak j).1 (ak j).2.1 (ak j).2.2.1) → nc + md + nr + N ≤ 256 + nrC ak ws r p → ∃ z' y' nr' rs' so', fn_X18_settle_L16 F sh n 337 f z (nI p) = fn_X18_settle_L80 F sh n 337 F z' 0 ∧ fn_X2_commit_L2 F sh n 104 f' y (nI p) = fn_X2_commit_L71 F sh n 104 F y' 0 ∧ SetI E sh n sd lim H m Hc mc sl0 na ak cn ws z' y' nc ac acC nr' rs' so' ∧ (∀ j, j < na → (ak j).1 = 3 → (ak j).2.2.2.2.1 = true → (fdR nr' rs' (ak j).2.1 (ak j).2.2.1).isSome = ws (ak j).1 (ak j).2.1 (ak j).2.2.1) ∧ nc + md + nr' + N ≤ 256 ∧ FrG z z' ∧ FrLc y y' ∧ RmR ak na p nr rs nr' rs' := by
  intro r
  induction r with
  | zero =>
    intro p f f' z y nr rs so e hf hf' I hw hc
    obtain ⟨f, rfl⟩ : ∃ g, f = g + 1 := ⟨f - 1, by omega⟩
    obtain ⟨f', rfl⟩ : ∃ g, f' = g + 1 := ⟨f' - 1, by omega⟩
    have ep : p = na := by omega
    subst ep
    exact ⟨z, y, nr, rs, so, setRE I.2.1.1, cRE I.1.2 I.2.2.1.1, I, fun j hj h3 ht => hw j hj h3 (.inr ht), by simpa [nrC] using hc, FrG.rfl', FrLc.rfl', RmR.zero⟩
  | succ r ih =>
    intro p f f' z y nr rs so e hf hf' I hw hc
    obtain ⟨f, rfl⟩ : ∃ g, f = g + 1 := ⟨f - 1, by omega⟩
    obtain ⟨f', rfl⟩ : ∃ g, f' = g + 1 := ⟨f' - 1, by omega⟩
    have hp : p < na := by omega
    obtain ⟨s1, s2, s3, s4, s5⟩ := akS_n ak lim p
    have kb := (I.2.2.1.1.2.2 p hp).1.b
    have hw' : ∀ j, j < na → (ak j).1 = 3 → p + 1 ≤ j ∨ (ak j).2.2.2.2.1 = true → (fdR nr rs (ak j).2.1 (ak j).2.2.1).isSome = ws (ak j).1 (ak j).2.1 (ak j).2.2.1 := fun j hj h3 q => hw j hj h3 (q.imp_left (fun x => by omega))
    rw [nrC_s] at hc
    by_cases c : (ak p).1 = 3 ∧ (ak p).2.2.2.2.1 = false
    · obtain ⟨c3, ct⟩ := c
      have hk : (ak p).2.2.1 < 2 ^ 24 := by rcases (I.2.2.1.1.2.2 p hp).1 with q | q | q <;> omega
      have R := setR1 (F := F) (f := f) hF I.1.1 I.2.1.1 I.2.2.2.1 hp (by rw [s1]; exact c3) (by rw [s3]; omega) (by rw [s4]; exact ct)
      rw [s2, s3] at R
      have hwp := hw p hp c3 (.inl (Nat.le_refl _))
      cases q : fdR nr rs (ak p).2.1 (ak p).2.2.1 with
      | none =>
        rw [q] at hwp
        have w0 : ws (ak p).1 (ak p).2.1 (ak p).2.2.1 = false := hwp.symm
        rw [if_neg (fun x => by rw [w0] at x; exact absurd x.2.2 (by simp))] at hc
        obtain ⟨z', y', nr', rs', so', t1, t2, t3, t4, t5, t6, t7, t8⟩ := ih (p + 1) f f' z y nr rs so (by omega) (by omega) (by omega) I hw' hc
        exact ⟨z', y', nr', rs', so', (R.1 q).trans t1, (cR0 I.1.2 I.2.2.1.1 hp (.inr (.inl w0))).trans t2, t3, t4, t5, t6, t7, t8.skip (fun i hi _ _ w => fdR_n q hi w.1.symm w.2.symm)⟩
      | some x =>
        rw [q] at hwp
        have w1 : ws (ak p).1 (ak p).2.1 (ak p).2.2.1 = true := hwp.symm
        rw [if_pos ⟨c3, ct, w1⟩] at hc
        obtain ⟨x1, _, _⟩ := fdR_k q
        obtain ⟨r0, _, q0, _⟩ := (I.2.2.2.2.2.1.r (ak p).2.1 (ak p).2.2.1 hk).2 x q
        obtain ⟨z1, a1, a2, a3⟩ := R.2 x q
        obtain ⟨y1, b1, b2, b3⟩ := (cR1 (F := F) (f := f') hF I.1.2 I.2.2.1.1 I.2.2.2.2.1 hp c3 w1 ct).2 r0 q0 (by omega)
        have I1 := I.go a3 b3 a2 b2 (I.2.2.2.2.2.1.rm q q0) I.2.2.2.2.2.2
        obtain ⟨z', y', nr', rs', so', t1, t2, t3, t4, t5, t6, t7, t8⟩ := ih (p + 1) f f' z1 y1 _ _ _ (by omega) (by omega) (by omega) I1 (fun j hj h3 qq => by
          rw [fdR_rm I.2.2.2.2.2.1.2.2.1 q (fun w => by
            have := I.2.2.1.1.1.2 j p hj hp (by rw [h3, c3]) w.1 w.2
            subst this
            rcases qq with v | v
            · omega
            · rw [ct] at v; exact absurd v (by simp))]
          exact hw' j hj h3 qq) (by omega)
        exact ⟨z', y', nr', rs', so', a1.trans t1, b1.trans t2, t3, t4, t5, a3.trans t6, b3.trans t7, t8.rm I.2.2.2.2.2.1.2.2.1 q⟩
    · have nb : (ak p).1 ≠ 3 ∨ (ak p).2.2.2.2.1 = true := by
        by_cases c3 : (ak p).1 = 3
        · right
          cases ht : (ak p).2.2.2.2.1 with
          | true => rfl
          | false => exact absurd ⟨c3, ht⟩ c
        · exact .inl c3
      rw [if_neg (fun x => c ⟨x.1, x.2.1⟩)] at hc
      obtain ⟨z', y', nr', rs', so', t1, t2, t3, t4, t5, t6, t7, t8⟩ := ih (p + 1) f f' z y nr rs so (by omega) (by omega) (by omega) I hw' hc
      exact ⟨z', y', nr', rs', so', (setR0 I.1.1 I.2.1.1 hp (by rw [s1]; omega) (by rw [s1, s4]; exact nb)).trans t1, (cR0 I.1.2 I.2.2.1.1 hp (nb.imp_right .inr)).trans t2, t3, t4, t5, t6, t7, t8.skip (fun i hi w1 w2 _ => c ⟨w1, w2⟩)⟩
end
