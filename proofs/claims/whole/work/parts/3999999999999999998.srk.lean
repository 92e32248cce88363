/-! READING WITH JUDGING: the same way, gone with what is known of the module -/
def jg {α : Type} (e : Flt) (x : Ex α) : Ex α := match e with | none => x | some w => .error w
abbrev JI : Type := Nat × Nat × (Nat → Nat) × Nat × Nat
def jd {α : Type} (J : Option JI) (e : JI → Flt) (x : Ex α) : Ex α := match J with | none => x | some j => jg (e j) x
def jAll (J : Option JI) : Option Nat := match J with | none => none | some j => some j.2.1
theorem jg_b {α β : Type} (e : Flt) (a : α) (f : α → Ex β) : (jg e (.ok a : Ex α) >>= f) = jg e (f a) := by cases e <;> rfl
theorem jg_j {α : Type} (e e' : Flt) (x : Ex α) : jg e (jg e' x) = jg (orE e e') x := by cases e <;> rfl
theorem bq_ok {α β : Type} {x : Ex α} {f : α → Ex β} {q : β} (h : (x >>= f) = .ok q) : ∃ a, x = .ok a ∧ f a = .ok q := by
  cases x with
  | error e => cases h
  | ok a => exact ⟨a, rfl, h⟩
theorem bq_as {α β γ : Type} (x : Ex α) (f : α → Ex β) (g : β → Ex γ) : ((x >>= f) >>= g) = (x >>= fun a => f a >>= g) := by cases x <;> rfl
def gOwn (b : Nat → Nat) (len : Nat) (J : Option JI) (p : Nat) : Ex (Nat × Nat) := rBy b len p >>= fun a => jd J (fun j => jOwn b j.1 j.2.1 p) (.ok a)
def gI1 (b : Nat → Nat) (len : Nat) (J : Option JI) (loc many p : Nat) : Ex (Unit × Nat) := rBy b len p >>= fun o => if 59 < o.1 then .error (5, p) else if 1 < o.1 ∧ o.1 < 5 then sk len 2 o.2 >>= fun s => jd J (fun _ => if many ≤ shB b o.2 then some (13, o.2) else none) (.ok s) else if 4 < o.1 ∧ o.1 < 11 then sk len (opB o.1) o.2 else if 10 < o.1 ∧ o.1 < 16 then rBy b len o.2 >>= fun a => jd J (fun _ => if loc ≤ a.1 then some (10, o.2) else none) (.ok ((), a.2)) else if o.1 = 16 ∨ o.1 = 17 then gOwn b len J o.2 >>= fun a => rBy b len a.2 >>= fun c => jd J (fun j => if j.2.2.1 a.1 ≤ c.1 then some (9, a.2) else none) (.ok ((), c.2)) else if o.1 = 21 ∨ o.1 = 22 ∨ (46 < o.1 ∧ o.1 < 52) then gOwn b len J o.2 >>= fun a => .ok ((), a.2) else if o.1 = 23 then rBy b len o.2 >>= fun a => jd J (fun j => if j.2.2.2.1 ≤ a.1 then some (11, o.2) else none) (.ok ((), a.2)) else if 51 < o.1 ∧ o.1 < 59 then rBy b len o.2 >>= fun a => jd J (fun j => if j.2.2.2.2 ≤ a.1 then some (12, o.2) else none) (.ok ((), a.2)) >>= fun c => if o.1 = 52 then rN b len 0 64 c.2 >>= fun d => .ok ((), d.2) else .ok ((), c.2) else .ok ((), o.2)
def gIs (b : Nat → Nat) (len : Nat) (J : Option JI) (loc many : Nat) : Nat → Nat → Ex (List Nat × Nat)
  | 0, p => .ok ([], p)
  | k + 1, p => gI1 b len J loc many p >>= fun q => gIs b len J loc many k q.2 >>= fun r => .ok (p :: r.1, r.2)
def gFn (b : Nat → Nat) (len : Nat) (J : Option JI) (tot p : Nat) : Ex (GP × Nat) := rN b len 0 7 p >>= fun a => pLs b len (jAll J) 8 a.2 >>= fun t => pLs b len (jAll J) 8 t.2 >>= fun g => pLs b len (jAll J) 32 g.2 >>= fun l => sk len 2 l.2 >>= fun s => if shB b l.2 < 1 ∨ 1024 < shB b l.2 ∨ 8192 < tot + shB b l.2 then .error (3, l.2) else gIs b len J (t.1.length + l.1.length) (shB b l.2) (shB b l.2) s.2 >>= fun c => .ok ((p, a.1, t.1, g.1, l.1, c.1), c.2)
def gFns (b : Nat → Nat) (len : Nat) (J : Option JI) : Nat → List GP → Nat → Ex (List GP × Nat)
  | 0, gs, p => .ok (gs, p)
  | k + 1, gs, p => gFn b len J (allC gs).length p >>= fun q => gFns b len J k (gs ++ [q.1]) q.2
def gEls (b : Nat → Nat) (len : Nat) (J : Option JI) : Nat → Nat → Ex (List (Nat × Ty) × Nat)
  | 0, p => .ok ([], p)
  | k + 1, p => rT b len (jAll J) false p >>= fun t => gEls b len J k t.2 >>= fun r => .ok ((p, t.1) :: r.1, r.2)
def gCa (b : Nat → Nat) (len : Nat) (J : Option JI) (p : Nat) : Ex (CP × Nat) := sk len 3 p >>= fun s => rN b len 0 7 s.2 >>= fun a => pLs b len (jAll J) 8 a.2 >>= fun t => pLs b len (jAll J) 8 t.2 >>= fun g => .ok ((p, t.1, g.1), g.2)
def gCas (b : Nat → Nat) (len : Nat) (J : Option JI) : Nat → Nat → Ex (List CP × Nat)
  | 0, p => .ok ([], p)
  | k + 1, p => gCa b len J p >>= fun c => gCas b len J k c.2 >>= fun r => .ok (c.1 :: r.1, r.2)
def gSt (b : Nat → Nat) (len : Nat) (J : Option JI) (p : Nat) : Ex (SP × Nat) := rN b len 0 15 p >>= fun a => rN b len 1 16 a.2 >>= fun c => pTs b len (jAll J) false c.1 c.2 >>= fun t => .ok ((p, a.1, t.1), t.2)
def gSts (b : Nat → Nat) (len : Nat) (J : Option JI) : Nat → Nat → Ex (List SP × Nat)
  | 0, p => .ok ([], p)
  | k + 1, p => gSt b len J p >>= fun c => gSts b len J k c.2 >>= fun r => .ok (c.1 :: r.1, r.2)
def gq5 (b : Nat → Nat) (len : Nat) (J : Option JI) (p : Nat) : Ex (List GP × Nat) := rN b len 0 64 p >>= fun g => gFns b len J g.1 [] g.2 >>= fun fs => if fs.2 < len then .error (6, fs.2) else .ok fs
def gq4 (b : Nat → Nat) (len : Nat) (J : Option JI) (p : Nat) : Ex ((List (Nat × Ty) × List GP) × Nat) := rN b len 0 32 p >>= fun e => gEls b len J e.1 e.2 >>= fun es => gq5 b len J es.2 >>= fun r => .ok ((es.1, r.1), r.2)
def gq3 (b : Nat → Nat) (len : Nat) (J : Option JI) (p : Nat) : Ex ((List CP × List (Nat × Ty) × List GP) × Nat) := rN b len 0 32 p >>= fun e => gCas b len J e.1 e.2 >>= fun es => gq4 b len J es.2 >>= fun r => .ok ((es.1, r.1), r.2)
def gq2 (b : Nat → Nat) (len : Nat) (J : Option JI) (p : Nat) : Ex ((List Nat × List CP × List (Nat × Ty) × List GP) × Nat) := rN b len 0 32 p >>= fun e => pFos b len e.1 e.2 >>= fun es => gq3 b len J es.2 >>= fun r => .ok ((es.1, r.1), r.2)
def gq1 (b : Nat → Nat) (len : Nat) (J : Option JI) (p : Nat) : Ex (MP × Nat) := rN b len 0 32 p >>= fun e => gSts b len J e.1 e.2 >>= fun es => gq2 b len J es.2 >>= fun r => .ok ((es.1, r.1), r.2)
def gAll (b : Nat → Nat) (len : Nat) (J : Option JI) : Ex (MP × Nat) := pHd b len 4 0 >>= fun h => sk len 2 h.2 >>= fun s => gq1 b len J s.2
section
variable {b : Nat → Nat} {len : Nat}
theorem sk_0 {p : Nat} (h : p ≤ len) : sk len 0 p = .ok ((), p) := by unfold sk; rw [if_pos (by omega)]; rfl
theorem rBy_le {p : Nat} {q : Nat × Nat} (h : rBy b len p = .ok q) : q.2 ≤ len := by
  obtain ⟨c, e⟩ := rBy_ok h
  subst e; exact c
theorem rBy_sk (p : Nat) : (rBy b len p >>= fun a => (.ok ((), a.2) : Ex (Unit × Nat))) = sk len 1 p := by
  unfold rBy sk
  by_cases c : p < len
  · rw [if_pos c, if_pos (show p + 1 ≤ len by omega)]; rfl
  · rw [if_neg c, if_neg (show ¬ p + 1 ≤ len by omega)]; rfl
theorem rBy_s2 (p : Nat) : (rBy b len p >>= fun a => rBy b len a.2 >>= fun c => (.ok ((), c.2) : Ex (Unit × Nat))) = sk len 2 p := by
  unfold rBy sk
  by_cases c : p < len
  · rw [if_pos c, ok_bq]
    by_cases d : p + 1 < len
    · rw [if_pos (show (b p, p + 1).2 < len from d), if_pos (show p + 2 ≤ len by omega)]; rfl
    · rw [if_neg (show ¬ (b p, p + 1).2 < len from d), if_neg (show ¬ p + 2 ≤ len by omega)]; rfl
  · rw [if_neg c, if_neg (show ¬ p + 2 ≤ len by omega)]; rfl
theorem op_pass (o : Nat) (ho : o < 60) (h1 : ¬ (1 < o ∧ o < 5)) (h2 : ¬ (4 < o ∧ o < 11)) (h3 : ¬ (10 < o ∧ o < 16)) (h4 : ¬ (o = 16 ∨ o = 17)) (h5 : ¬ (o = 21 ∨ o = 22 ∨ (46 < o ∧ o < 52))) (h6 : ¬ o = 23) (h7 : ¬ (51 < o ∧ o < 59)) : opB o = 0 := by
  unfold opB
  rw [if_neg (by omega), if_neg (by omega), if_neg (by omega), if_neg (by omega)]
theorem gI1_0 (loc many p : Nat) : gI1 b len none loc many p = pI1 b len p := by
  unfold gI1 pI1
  cases e : rBy b len p with
  | error w => rfl
  | ok o =>
    have ol := rBy_le e
    rw [ok_bq, ok_bq]
    by_cases c59 : 59 < o.1
    · rw [if_pos c59, if_pos c59]
    rw [if_neg c59, if_neg c59]
    by_cases c1 : 1 < o.1 ∧ o.1 < 5
    · rw [if_pos c1, if_neg (show ¬ o.1 = 52 by omega), (op_jmp o.1 (by omega) (by omega)).1]
      show (sk len 2 o.2 >>= fun s => .ok s) = _
      cases sk len 2 o.2 <;> rfl
    rw [if_neg c1]
    by_cases c2 : 4 < o.1 ∧ o.1 < 11
    · rw [if_pos c2, if_neg (show ¬ o.1 = 52 by omega)]
    rw [if_neg c2]
    by_cases c3 : 10 < o.1 ∧ o.1 < 16
    · rw [if_pos c3, if_neg (show ¬ o.1 = 52 by omega), (op_one o.1 (by omega) (by omega)).1]
      exact rBy_sk o.2
    rw [if_neg c3]
    by_cases c4 : o.1 = 16 ∨ o.1 = 17
    · rw [if_pos c4, if_neg (show ¬ o.1 = 52 by omega), (op_two o.1 (by omega) (by omega)).1]
      show ((rBy b len o.2 >>= fun a => .ok a) >>= fun a => rBy b len a.2 >>= fun c => .ok ((), c.2)) = _
      rw [← rBy_s2 (b := b)]
      cases rBy b len o.2 <;> rfl
    rw [if_neg c4]
    by_cases c5 : o.1 = 21 ∨ o.1 = 22 ∨ (46 < o.1 ∧ o.1 < 52)
    · rw [if_pos c5, if_neg (show ¬ o.1 = 52 by omega), (op_one o.1 (by omega) (by omega)).1]
      show ((rBy b len o.2 >>= fun a => .ok a) >>= fun a => .ok ((), a.2)) = _
      rw [← rBy_sk (b := b)]
      cases rBy b len o.2 <;> rfl
    rw [if_neg c5]
    by_cases c6 : o.1 = 23
    · rw [if_pos c6, if_neg (show ¬ o.1 = 52 by omega), (op_one o.1 (by omega) (by omega)).1]
      exact rBy_sk o.2
    rw [if_neg c6]
    by_cases c7 : 51 < o.1 ∧ o.1 < 59
    · rw [if_pos c7]
      by_cases c8 : o.1 = 52
      · rw [if_pos c8]
        show (rBy b len o.2 >>= fun a => (.ok ((), a.2) : Ex (Unit × Nat)) >>= fun c => if o.1 = 52 then rN b len 0 64 c.2 >>= fun d => .ok ((), d.2) else .ok ((), c.2)) = _
        cases rBy b len o.2 with
        | error w => rfl
        | ok a => rw [ok_bq, ok_bq, ok_bq, if_pos c8]
      · rw [if_neg c8, (op_one o.1 (by omega) (by omega)).1, ← rBy_sk (b := b)]
        show (rBy b len o.2 >>= fun a => (.ok ((), a.2) : Ex (Unit × Nat)) >>= fun c => if o.1 = 52 then rN b len 0 64 c.2 >>= fun d => .ok ((), d.2) else .ok ((), c.2)) = _
        cases rBy b len o.2 with
        | error w => rfl
        | ok a => rw [ok_bq, ok_bq, ok_bq, if_neg c8]
    rw [if_neg c7, if_neg (show ¬ o.1 = 52 by omega), op_pass o.1 (by omega) c1 c2 c3 c4 c5 c6 c7, sk_0 ol]
theorem gIs_0 (loc many : Nat) : ∀ k p, gIs b len none loc many k p = pIs b len k p
  | 0, _ => rfl
  | k + 1, p => by
    unfold gIs pIs
    rw [gI1_0]
    congr 1
    funext q
    rw [gIs_0 loc many k]
theorem gFn_0 (tot p : Nat) : gFn b len none tot p = pF b len tot p := by
  unfold gFn pF
  simp only [gIs_0]
  rfl
theorem gFns_0 : ∀ k gs p, gFns b len none k gs p = pFs b len k gs p
  | 0, _, _ => rfl
  | k + 1, gs, p => by
    unfold gFns pFs
    rw [gFn_0]
    congr 1
    funext q
    exact gFns_0 k _ _
theorem gEls_0 : ∀ k p, gEls b len none k p = pEs b len k p
  | 0, _ => rfl
  | k + 1, p => by
    unfold gEls pEs
    simp only [gEls_0 k]
    rfl
theorem gCas_0 : ∀ k p, gCas b len none k p = pCs b len k p
  | 0, _ => rfl
  | k + 1, p => by
    unfold gCas pCs
    simp only [gCas_0 k]
    rfl
theorem gSts_0 : ∀ k p, gSts b len none k p = pSs b len k p
  | 0, _ => rfl
  | k + 1, p => by
    unfold gSts pSs
    simp only [gSts_0 k]
    rfl
theorem gAll_0 : gAll b len none = pAll b len := by
  unfold gAll gq1 gq2 gq3 gq4 gq5 pAll q1 q2 q3 q4 q5
  simp only [gSts_0, gCas_0, gEls_0, gFns_0]
end
