/-! THE REFERENCE'S LOOKER: calls -/
def wq (w : Nat) (g : Bool) (v : Nat) : Nat := if w = 0 then (if g then 0 else v) else w
theorem wq_t (w v : Nat) : wq w true v = w := by unfold wq; by_cases c : w = 0 <;> simp [c]
theorem wq_a (w : Nat) (a b : Bool) (v : Nat) : v ≠ 0 → wq (wq w a v) b v = wq w (a && b) v := by
  intro hv
  unfold wq
  by_cases c : w = 0
  · cases a <;> cases b <;> simp [c, hv]
  · simp [c]
section
variable {F n : Nat} {sh : Nat → Nat × Nat} {z z' : St} {ku f w ns : Nat} {ls : List Ty} {L M : Lks} {U : Md}
theorem RK.ndw (h : RK sh n z ku f ls ns w L) (b : Bool) {v : Nat} (hv : v < 16) (h0 : 0 < v) : ∃ z', fn_X13_need F sh n z 355 (bI b) (nI v) = some (z', ()) ∧ RK sh n z' ku f ls ns (wq w b v) L ∧ FrLk z z' ∧ Fr5 z z' := by
  obtain ⟨z', q1, q2, q3, q4⟩ := h.need (F := F) b hv h0
  exact ⟨z', q1, q2, q3, h.need5 q1⟩
/-- arguments lie above the stack -/
def ArgR (z : St) (B nn : Nat) (A : Nat → SS) (ns : Nat) : Prop := B + nn ≤ 65 ∧ ∀ k, k < nn → z.2.1 362 (B + k) = tL (A k).1 ∧ z.2.1 363 (B + k) = (A k).2.1 ∧ TBr ns (A k).1
theorem ArgR.f5 {B nn : Nat} {A : Nat → SS} (h : ArgR z B nn A ns) (f : Fr5 z z') : ArgR z' B nn A ns := ⟨h.1, fun k hk => by rw [(f 362 (by omega)).2, (f 363 (by omega)).2]; exact h.2 k hk⟩
theorem c191 {B nn : Nat} {A : Nat → SS} {k : Nat} (hk : k < nn) (v78 v89 : Int64) (K : St → Int64 → Int64 → Int32 → Option (St × Unit)) : ∀ r j g z1 w, j + r = nn → r < g → RK sh n z1 ku f ls ns w M → ArgR z1 B nn A ns → ∃ z2, fn_X13_call_L191 F sh n (nI nn) v78 (nI k) v89 355 (nI B) K g z1 (nI j) = K z2 v78 v89 (nI (k + 1)) ∧ RK sh n z2 ku f ls ns (wq w ((List.range' j r).all (fun j => j == k || !mtB (A j).2.1 (A k).2.1)) 6) M ∧ FrLk z1 z2 ∧ Fr5 z1 z2 := by
  intro r
  induction r with
  | zero =>
    intro j g z1 w e hg T ar
    obtain ⟨g, rfl⟩ : ∃ q, g = q + 1 := ⟨g - 1, by omega⟩
    have := ar.1
    conv => enter [1, z2, 1, 1]; unfold fn_X13_call_L191
    rw [if_pos ((nI_leI (by omega) (by omega)).mpr (by omega))]
    refine ⟨z1, ?_, by rw [List.range'_zero, List.all_nil, wq_t]; exact T, FrLk.rfl', Fr5.rfl'⟩
    unfold fn_X13_call_B245
    rw [nI_1]
  | succ r ih =>
    intro j g z1 w e hg T ar
    obtain ⟨g, rfl⟩ : ∃ q, g = q + 1 := ⟨g - 1, by omega⟩
    have b65 := ar.1
    have nx : ∀ b b' : Bool, b' = b → ∃ z2, fn_X13_call_B234 F sh n 355 (nI j) (fun z9 q10 => fn_X13_call_L191 F sh n (nI nn) v78 (nI k) v89 355 (nI B) K g z9 q10) z1 (bI b) = K z2 v78 v89 (nI (k + 1)) ∧ RK sh n z2 ku f ls ns (wq w (b' && (List.range' (j + 1) r).all (fun j => j == k || !mtB (A j).2.1 (A k).2.1)) 6) M ∧ FrLk z1 z2 ∧ Fr5 z1 z2 := fun b b' eb => by
      subst eb
      obtain ⟨z2, q1, q2, q3, q4⟩ := T.ndw (F := F) b' (v := 6) (by omega) (by omega)
      have q1' : fn_X13_need F sh n z1 355 (bI b') 6 = some (z2, ()) := q1
      obtain ⟨z3, s1, s2, s3, s4⟩ := ih (j + 1) g z2 _ (by omega) (by omega) q2 (ar.f5 q4)
      unfold fn_X13_call_B234
      rw [q1', cal_s, nI_1]
      refine ⟨z3, s1, ?_, q3.trans s3, q4.trans s4⟩
      rw [wq_a _ _ _ _ (by omega)] at s2
      exact s2
    rw [rng_a]
    conv => enter [1, z2, 1, 1]; unfold fn_X13_call_L191
    rw [if_neg (fun q => by have := (nI_leI (by omega) (by omega)).mp q; omega)]
    by_cases c : j = k
    · rw [if_pos (by rw [c])]
      exact nx true _ (by rw [show (j == k) = true from beq_iff_eq.mpr c]; rfl)
    · rw [if_neg (fun q => c ((nI_ij (by omega) (by omega)).mp q)), show (j == k) = false from beq_eq_false_iff_ne.mpr c, Bool.false_or]
      obtain ⟨_, e2, _⟩ := ar.2 j (by omega)
      obtain ⟨_, g2, _⟩ := ar.2 k hk
      have ok : ∀ i, i < nn → okA sh n 363 102 (nI (B + i)) = true := fun i hi => by rw [lay_a T.1 363 102 200 (by omega) rfl]; exact okI_nI (by omega) (by omega)
      rw [T.1.2.2 355 12 363 rfl, lnk_s, nI_add, ok j (by omega), grd_true, lnk_s, nI_add, ok k hk, grd_true, nI_clamp (show B + j < 2 ^ 31 by omega), nI_clamp (show B + k < 2 ^ 31 by omega), e2, g2]
      cases mt : mtB (A j).2.1 (A k).2.1 with
      | false => rw [if_pos (mtB_0.mpr mt)]; exact nx true _ rfl
      | true => rw [if_neg (fun q => by have := mtB_0.mp q; rw [mt] at this; exact absurd this (by simp))]; exact nx false _ rfl
/-- what a call needs of each argument -/
def argG (ls : List Ty) (M : Lks) (nn : Nat) (A : Nat → SS) (k : Nat) : Bool := hdT (A k).1 != 9 || (lSole ls M (A k).2.1 && (List.range nn).all (fun j => j == k || !mtB (A j).2.1 (A k).2.1))
theorem rngm (A : Nat → SS) (k : Nat) : (List.range (k + 1)).map A = (List.range k).map A ++ [A k] := by rw [List.range_succ, List.map_append]; rfl
theorem c117 (hF : 300 ≤ F) {B nn a : Nat} {A : Nat → SS} {p19 : Int32} : ∀ r k g z1 w, k + r = nn → r < g → RK sh n z1 ku f ls ns w M → ArgR z1 B nn A ns → ∃ z2, fn_X13_call_L117 F sh n (nI nn) p19 355 (nI a) (nI B) g z1 (orO ((List.range k).map A)) (orO (((List.range k).map A).filter (fun s => hdT s.1 == 9))) (nI k) = fn_X13_call_B266 F sh n p19 355 (nI a) (orO ((List.range nn).map A)) (orO (((List.range nn).map A).filter (fun s => hdT s.1 == 9))) z2 (bI ((List.range 16).any (fun b => ob (orO ((List.range nn).map A)) (48 + b)))) ∧ RK sh n z2 ku f ls ns (wq w ((List.range' k r).all (argG ls M nn A)) 6) M ∧ FrLk z1 z2 := by
  intro r
  induction r with
  | zero =>
    intro k g z1 w e hg T ar
    obtain ⟨g, rfl⟩ : ∃ q, g = q + 1 := ⟨g - 1, by omega⟩
    have := ar.1
    have ek : k = nn := by omega
    subst ek
    conv => enter [1, z2, 1, 1]; unfold fn_X13_call_L117
    rw [if_pos ((nI_leI (by omega) (by omega)).mpr (by omega))]
    refine ⟨z1, ?_, by rw [List.range'_zero, List.all_nil, wq_t]; exact T, FrLk.rfl'⟩
    cases q : (List.range 16).any (fun b => ob (orO ((List.range k).map A)) (48 + b)) with
    | false => rw [if_pos ((top16 _).mpr q)]; rfl
    | true => rw [if_neg (fun x => by have := (top16 _).mp x; rw [q] at this; exact absurd this (by simp))]; rfl
  | succ r ih =>
    intro k g z1 w e hg T ar
    obtain ⟨g, rfl⟩ : ∃ q, g = q + 1 := ⟨g - 1, by omega⟩
    have b65 := ar.1
    obtain ⟨e1, e2, e3⟩ := ar.2 k (by omega)
    have ok : ∀ c, shF c = (102, 200) → c < 513 → okA sh n c 102 (nI (B + k)) = true := fun c ee hc => by rw [lay_a T.1 c 102 200 hc ee]; exact okI_nI (by omega) (by omega)
    have cp : (nI (B + k)).toNatClampNeg = B + k := nI_clamp (by omega)
    have nx : ∀ z2 w', RK sh n z2 ku f ls ns w' M → ArgR z2 B nn A ns → ∃ z3, fn_X13_call_L117 F sh n (nI nn) p19 355 (nI a) (nI B) g z2 (orO ((List.range k).map A) ||| (A k).2.1) (orO (((List.range k).map A).filter (fun s => hdT s.1 == 9)) ||| (if hdT (A k).1 == 9 then (A k).2.1 else 0)) (nI (k + 1)) = fn_X13_call_B266 F sh n p19 355 (nI a) (orO ((List.range nn).map A)) (orO (((List.range nn).map A).filter (fun s => hdT s.1 == 9))) z3 (bI ((List.range 16).any (fun b => ob (orO ((List.range nn).map A)) (48 + b)))) ∧ RK sh n z3 ku f ls ns (wq w' ((List.range' (k + 1) r).all (argG ls M nn A)) 6) M ∧ FrLk z2 z3 := fun z2 w' T2 ar2 => by
      obtain ⟨z3, s1, s2, s3⟩ := ih (k + 1) g z2 w' (by omega) (by omega) T2 ar2
      refine ⟨z3, ?_, s2, s3⟩
      rw [rngm, orO_a, List.filter_append] at s1
      cases q : (hdT (A k).1 == 9) with
      | true =>
        rw [List.filter_cons_of_pos (p := fun s => hdT s.1 == 9) (a := A k) q, List.filter_nil, orO_a] at s1
        exact s1
      | false =>
        rw [List.filter_cons_of_neg (p := fun s => hdT s.1 == 9) (a := A k) (by simp [q]), List.filter_nil, List.append_nil] at s1
        rw [if_neg (by simp), Int64.or_zero]
        exact s1
    rw [rng_a]
    conv => enter [1, z2, 1, 1]; unfold fn_X13_call_L117
    rw [if_neg (fun q => by have := (nI_leI (by omega) (by omega)).mp q; omega), T.1.2.2 355 12 363 rfl, lnk_s, nI_add, ok 363 rfl (by omega), grd_true, cp, e2, lt_t, T.1.2.2 355 11 362 rfl, lnk_s, ok 362 rfl (by omega), grd_true, e1, writesR_t hF e3.1, cal_s]
    cases q : (hdT (A k).1 == 9) with
    | false =>
      rw [if_pos (show bI false = 0 from rfl)]
      obtain ⟨z3, s1, s2, s3⟩ := nx z1 w T ar
      rw [q, if_neg (by simp), Int64.or_zero] at s1
      refine ⟨z3, ?_, ?_, s3⟩
      · unfold fn_X13_call_B245
        rw [nI_1]
        exact s1
      · have eg : argG ls M nn A k = true := by unfold argG; rw [show (hdT (A k).1 != 9) = true by simp [bne, q]]; rfl
        rw [eg, Bool.true_and]
        exact s2
    | true =>
      rw [if_neg (show ¬ bI true = 0 from one0), T.1.2.2 355 12 363 rfl, lnk_s, ok 363 rfl (by omega), grd_true, e2, lt_t, lnk_s, ok 363 rfl (by omega), grd_true, e2, T.sole hF, cal_s]
      obtain ⟨z2, p1, p2, p3, p4⟩ := T.ndw (F := F) (lSole ls M (A k).2.1) (v := 6) (by omega) (by omega)
      have p1' : fn_X13_need F sh n z1 355 (bI (lSole ls M (A k).2.1)) 6 = some (z2, ()) := p1
      rw [p1', cal_s]
      obtain ⟨z3, s1, s2, s3, s4⟩ := c191 (F := F) (B := B) (nn := nn) (A := A) (k := k) (by omega) (orO ((List.range k).map A) ||| (A k).2.1) (orO (((List.range k).map A).filter (fun s => hdT s.1 == 9)) ||| (A k).2.1) (fun z9 q5 q7 q9 => fn_X13_call_L117 F sh n (nI nn) p19 355 (nI a) (nI B) g z9 q5 q7 q9) nn 0 F z2 _ (by omega) (by omega) p2 (ar.f5 p4)
      obtain ⟨z4, u1, u2, u3⟩ := nx z3 _ s2 ((ar.f5 p4).f5 s4)
      rw [q, if_pos rfl] at u1
      refine ⟨z4, s1.trans u1, ?_, (p3.trans s3).trans u3⟩
      rw [wq_a _ _ _ _ (by omega), wq_a _ _ _ _ (by omega), ← List.range_eq_range'] at u2
      have eg : argG ls M nn A k = (lSole ls M (A k).2.1 && (List.range nn).all (fun j => j == k || !mtB (A j).2.1 (A k).2.1)) := by unfold argG; rw [show (hdT (A k).1 != 9) = false by simp [bne, q]]; rfl
      rw [eg, Bool.and_assoc]
      exact u2
end
