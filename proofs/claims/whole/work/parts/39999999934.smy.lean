/-! BOTH MACHINES SIDE BY SIDE: what calls and returns mean -/
def TyS (U U' : Md) (t t' : Ty) : Prop := sR t = sR t' ∧ sT U.2.2.2.1 t = sT U'.2.2.2.1 t'
def N63 (L : Lks) : Prop := (∀ k, k < L.1.1 → ob (L.1.2 k).2.1 63 = false) ∧ ∀ k, L.2.1 k = true → ob (L.2.2.1 k) 63 = false
/-- what is given back, as looking knows it -/
def gvA (args : List SS) (t : Ty) : SS := (t, rO t (if hdT t = 9 then orO (args.filter (fun s => hdT s.1 == 9)) else orO args), rI t true)
/-- a frame that waits for values of these types; L' is known behind them -/
def Waits (U : Md) (ls : List Ty) (x : Fm) (L' : Lks) (gv : List Ty) : Prop := ∃ (M : Lks) (args : List SS), FM U ls x M ∧ aGives (gv.map (gvA args)) M = .ok L' ∧ (∀ t, t ∈ gv → STy U.1.2.2 t) ∧ ∀ j g, x.2.2.2 j = some g → ∃ s, s ∈ args ∧ g.2.1 = hdT s.1 ∧ g.2.2.2.1 = s.2.1
theorem orO_ob {b : Nat} : ∀ {l : List SS} {s : SS}, s ∈ l → ob s.2.1 b = true → ob (orO l) b = true
  | x :: xs, s, h, hb => by
    have e : ob (orO (x :: xs)) b = (ob x.2.1 b || ob (orO xs) b) := by
      show (x.2.1 ||| orO xs).toBitVec.getLsbD b = _
      rw [Int64.toBitVec_or, BitVec.getLsbD_or]
      rfl
    rw [e, Bool.or_eq_true]
    rcases List.mem_cons.mp h with q | q
    · left; rw [← q]; exact hb
    · right; exact orO_ob q hb
theorem ob_64 {x : Int64} {b : Nat} (h : 64 ≤ b) : ob x b = false := by
  unfold ob
  exact BitVec.getLsbD_of_ge _ _ h
/-- what looking at a call says -/
theorem call_ok {U : Md} {ls : List Ty} {f a : Nat} {L L' : Lks} (h : aCall U ls f a L = .ok L') : (tksOf U a).length ≤ L.1.1 ∧ (∀ i (hi : i < (tksOf U a).length), (L.1.2 (L.1.1 - (tksOf U a).length + i)).1 = (tksOf U a)[i]) ∧ (resOf U a = true → resOf U f = true) ∧ (∀ k, k < (tksOf U a).length → hdT (L.1.2 (L.1.1 - (tksOf U a).length + k)).1 = 9 → lSole ls ((L.1.1 - (tksOf U a).length, L.1.2), L.2) (L.1.2 (L.1.1 - (tksOf U a).length + k)).2.1 = true ∧ ∀ j, j < (tksOf U a).length → j ≠ k → mtB (L.1.2 (L.1.1 - (tksOf U a).length + j)).2.1 (L.1.2 (L.1.1 - (tksOf U a).length + k)).2.1 = false) ∧ (resOf U a = true → ∀ b, b < 15 → ob (orO ((List.range (tksOf U a).length).map (fun k => L.1.2 (L.1.1 - (tksOf U a).length + k)))) (48 + b) = false ∧ lPt ls ((L.1.1 - (tksOf U a).length, L.1.2), L.2) (48 + b) false = false) ∧ aGives ((gvsOf U a).map (gvA ((List.range (tksOf U a).length).map (fun k => L.1.2 (L.1.1 - (tksOf U a).length + k))))) ((L.1.1 - (tksOf U a).length, L.1.2), L.2) = .ok L' := by
  unfold aCall at h
  obtain ⟨M, h1, h2⟩ := px_ok h
  obtain ⟨a1, a2, a3⟩ := takes_rev h1
  subst a3
  simp only at h2
  obtain ⟨_, h3, h4⟩ := px_ok h2
  obtain ⟨_, h5, h6⟩ := px_ok h4
  obtain ⟨_, h7, h8⟩ := px_ok h6
  have n3 := nd_ok h3
  have n5 := nd_ok h5
  have n7 := nd_ok h7
  refine ⟨a1, a2, fun q => ?_, fun k hk q => ?_, fun q b hb => ?_, h8⟩
  · rw [q] at n3; simpa using n3
  · have w := List.all_eq_true.mp n5 k (List.mem_range.mpr hk)
    rw [q] at w
    simp only [bne_self_eq_false, Bool.false_or, Bool.and_eq_true] at w
    refine ⟨w.1, fun j hj hjk => ?_⟩
    have v := List.all_eq_true.mp w.2 j (List.mem_range.mpr hj)
    simp only [Bool.or_eq_true, beq_iff_eq, Bool.not_eq_true'] at v
    rcases v with v | v
    · exact absurd v hjk
    · exact v
  · rw [q] at n7
    simp only [Bool.not_true, Bool.false_or, Bool.not_eq_true', Bool.or_eq_false_iff] at n7
    have w : ∀ x, x ∈ List.range 15 → _ := List.any_eq_false.mp n7.1
    have v := w b (List.mem_range.mpr hb)
    simpa using v
section
variable {E : Ev} {H : Hp} {m : Nat} {ty : Nat → Nat} {fr : Nat → Fm} {nf na : Nat} {ak : Nat → Ask} {U U' : Md} {ls : List Ty} {L L' L0 : Lks}
def psA (x : Fm) (c : Nat) (k : Nat) : Sl := ((x.2.2.1.2 (x.2.2.1.1 - c + k)).1, (x.2.2.1.2 (x.2.2.1.1 - c + k)).2.1, (x.2.2.1.2 (x.2.2.1.1 - c + k)).2.2.1, bitO (40 + k), false)
def ghC (x : Fm) (c : Nat) : Nat → Option Sl := fun k => if k < c ∧ (x.2.2.1.2 (x.2.2.1.1 - c + k)).2.1 ≠ 0 then some (x.2.2.1.2 (x.2.2.1.1 - c + k)) else none
/-- a call, semantically -/
theorem MJ.calls (I : MJ E H m ty fr nf na ak (fun _ => none)) (fm : FM U ls (fr (nf - 1)) L) (hU : UOk E (fr (nf - 1)).1.1 U) {a u' f' : Nat} (hc : aCall U ls (fr (nf - 1)).1.2.1 a L = .ok L') (h63 : N63 L) (h8 : (tksOf U a).length ≤ 8) (hres : E.2.2.1 u' f' = true → resOf U a = true) (gT : ∀ t, t ∈ gvsOf U a → STy U.1.2.2 t) (tl : (tksOf U' f').length = (tksOf U a).length) (tk : ∀ k, k < (tksOf U a).length → TyS U U' ((tksOf U a).getD k []) ((tksOf U' f').getD k [])) (c0 : L0.1.1 = 0) (c1 : ∀ k, k < (locOf U' f').length → L0.2.1 k = decide (k < (tksOf U' f').length) ∧ (L0.2.1 k = true → isR ((locOf U' f').getD k []) = true → L0.2.2.1 k = bitO (40 + k) ∧ L0.2.2.2 k = false)) : (tksOf U a).length ≤ (fr (nf - 1)).2.2.1.1 ∧ MJ E H m ty (enF fr nf u' f' (tksOf U a).length (fr (nf - 1)).1.2.2 (ghC (fr (nf - 1)) (tksOf U a).length) (psA (fr (nf - 1)) (tksOf U a).length)) (nf + 1) na ak (fun _ => none) ∧ Waits U ls (enF fr nf u' f' (tksOf U a).length (fr (nf - 1)).1.2.2 (ghC (fr (nf - 1)) (tksOf U a).length) (psA (fr (nf - 1)) (tksOf U a).length) (nf - 1)) L' (gvsOf U a) ∧ FM U' (locOf U' f') (enF fr nf u' f' (tksOf U a).length (fr (nf - 1)).1.2.2 (ghC (fr (nf - 1)) (tksOf U a).length) (psA (fr (nf - 1)) (tksOf U a).length) nf) L0 := by
  have n0 := I.nf0
  obtain ⟨k1, k2, k3, k4, k5, k6⟩ := call_ok hc
  have hh := fm.1
  have g0 := I.2.2.2.2.2.1
  have k2' : ∀ i, i < (tksOf U a).length → (L.1.2 (L.1.1 - (tksOf U a).length + i)).1 = (tksOf U a).getD i [] := fun i hi => by rw [k2 i hi, List.getD_eq_getElem?_getD, List.getElem?_eq_getElem hi]; rfl
  clear k2
  generalize ec : (tksOf U a).length = c at *
  have kd : ∀ k, k < c → ((fr (nf - 1)).2.2.1.2 ((fr (nf - 1)).2.2.1.1 - c + k)).2.1 = sR (L.1.2 (L.1.1 - c + k)).1 ∧ ((fr (nf - 1)).2.2.1.2 ((fr (nf - 1)).2.2.1.1 - c + k)).2.2.1 = sT U.2.2.2.1 (L.1.2 (L.1.1 - c + k)).1 ∧ (isR (L.1.2 (L.1.1 - c + k)).1 = true → ((fr (nf - 1)).2.2.1.2 ((fr (nf - 1)).2.2.1.1 - c + k)).2.2.2.1 = (L.1.2 (L.1.1 - c + k)).2.1) := fun k hk => by
    have s := (fm.2.2.1 (L.1.1 - c + k) (by omega)).1
    rw [hh]
    exact ⟨s.1, s.2.1, fun q => (s.2.2 q).1⟩
  have rk : ∀ k, k < c → ((fr (nf - 1)).2.2.1.2 ((fr (nf - 1)).2.2.1.1 - c + k)).2.1 ≠ 0 → isR (L.1.2 (L.1.1 - c + k)).1 = true ∧ ((fr (nf - 1)).2.2.1.2 ((fr (nf - 1)).2.2.1.1 - c + k)).2.1 = hdT (L.1.2 (L.1.1 - c + k)).1 := fun k hk q => by
    have e := (kd k hk).1
    by_cases r : isR (L.1.2 (L.1.1 - c + k)).1 = true
    · exact ⟨r, by rw [e, sR, if_pos r]⟩
    · rw [sR, if_neg r] at e; exact absurd e q
  have fd := fm.drop c
  have all : ∀ s, s.2.1 ≠ 0 → ((∃ j, j < (fr (nf - 1)).2.2.1.1 - c ∧ (fr (nf - 1)).2.2.1.2 j = s) ∨ ∃ j, (fr (nf - 1)).2.1 j = some s) → ((∃ k, k < (setH (fr (nf - 1)) ((fr (nf - 1)).2.2.1.1 - c)).2.2.1.1 ∧ (setH (fr (nf - 1)) ((fr (nf - 1)).2.2.1.1 - c)).2.2.1.2 k = s) ∨ ∃ k, (setH (fr (nf - 1)) ((fr (nf - 1)).2.2.1.1 - c)).2.1 k = some s) := fun s _ q => q
  refine ⟨by omega, ?_, ?_, ?_⟩
  · have := I.call (n := c) (u' := u') (f' := f') (nx := (fr (nf - 1)).1.2.2) (psA (fr (nf - 1)) c) (by omega) h8 (fun k hk => ⟨rfl, rfl, rfl, fun _ => ob_bit _ (by omega)⟩) (fun k hk q9 => ?_) (fun q => ?_)
    · exact this
    · obtain ⟨r1, r2⟩ := rk k hk (by omega)
      obtain ⟨w1, w2⟩ := k4 k hk (by omega)
      rw [(kd k hk).2.2 r1]
      refine ⟨fun s hs hq hm => fd.sole w1 hs (all s hs hq) hm, fun j hj hjk hr hm => ?_⟩
      obtain ⟨r3, r4⟩ := rk j hj hr
      rw [(kd j hj).2.2 r3] at hm
      have := mtB_of hm
      rw [w2 j hj hjk] at this
      exact absurd this (by simp)
    · have ra := hres q
      refine ⟨(hU.2.2.2.2.1 _).trans (k3 ra), fun s hs b hb => ?_⟩
      obtain ⟨_, s1, s2⟩ := hs
      have s3 : (∃ k, k < (fr (nf - 1)).2.2.1.1 ∧ (fr (nf - 1)).2.2.1.2 k = s) ∨ ∃ k, (fr (nf - 1)).2.1 k = some s := by
        rcases s2 with s2 | s2 | ⟨k, s2⟩
        · exact .inl s2
        · exact .inr s2
        · rw [g0 k n0] at s2; exact absurd s2 (by simp)
      by_cases b64 : 64 ≤ b
      · exact ob_64 b64
      · by_cases b63 : b = 63
        · subst b63
          rcases fm.rf s1 s3 with ⟨k, e1, _, _, _, e2, _⟩ | ⟨k, e1, _, e3, _, _, e2, _⟩
          · rw [e2]; exact h63.1 k e1
          · rw [e2]; exact h63.2 k e3
        · obtain ⟨v1, v2⟩ := k5 ra (b - 48) (by omega)
          rw [show 48 + (b - 48) = b by omega] at v1 v2
          rcases s3 with ⟨k, e1, e2⟩ | s3
          · by_cases kc : k < (fr (nf - 1)).2.2.1.1 - c
            · exact fd.pt v2 s1 (.inl ⟨k, kc, e2⟩)
            · have ek : (fr (nf - 1)).2.2.1.1 - c + (k - ((fr (nf - 1)).2.2.1.1 - c)) = k := by omega
              have d1 := rk (k - ((fr (nf - 1)).2.2.1.1 - c)) (by omega) (by rw [ek, e2]; exact s1)
              have d2 := (kd (k - ((fr (nf - 1)).2.2.1.1 - c)) (by omega)).2.2 d1.1
              rw [ek, e2] at d2
              rw [d2]
              cases qq : ob (L.1.2 (L.1.1 - c + (k - ((fr (nf - 1)).2.2.1.1 - c)))).2.1 b with
              | false => rfl
              | true =>
                have := orO_ob (l := (List.range c).map (fun k => L.1.2 (L.1.1 - c + k))) (List.mem_map.mpr ⟨k - ((fr (nf - 1)).2.2.1.1 - c), List.mem_range.mpr (by omega), rfl⟩) qq
                rw [v1] at this
                exact absurd this (by simp)
          · exact fd.pt v2 s1 (.inr s3)
  · have eA : enF fr nf u' f' c (fr (nf - 1)).1.2.2 (ghC (fr (nf - 1)) c) (psA (fr (nf - 1)) c) (nf - 1) = (((fr (nf - 1)).1.1, (fr (nf - 1)).1.2.1, (fr (nf - 1)).1.2.2), (fr (nf - 1)).2.1, ((fr (nf - 1)).2.2.1.1 - c, (fr (nf - 1)).2.2.1.2), ghC (fr (nf - 1)) c) := by
      unfold enF
      rw [setF_n (by omega), setF_s]
    rw [eA]
    refine ⟨_, _, fd, k6, gT, fun j g hg => ?_⟩
    have hg' : ghC (fr (nf - 1)) c j = some g := hg
    unfold ghC at hg'
    by_cases q : j < c ∧ ((fr (nf - 1)).2.2.1.2 ((fr (nf - 1)).2.2.1.1 - c + j)).2.1 ≠ 0
    · rw [if_pos q] at hg'
      have e : g = (fr (nf - 1)).2.2.1.2 ((fr (nf - 1)).2.2.1.1 - c + j) := by simpa using hg'.symm
      obtain ⟨r1, r2⟩ := rk j q.1 q.2
      exact ⟨L.1.2 (L.1.1 - c + j), List.mem_map.mpr ⟨j, List.mem_range.mpr q.1, rfl⟩, by rw [e]; exact r2, by rw [e]; exact (kd j q.1).2.2 r1⟩
    · rw [if_neg q] at hg'; exact absurd hg' (by simp)
  · have eB : enF fr nf u' f' c (fr (nf - 1)).1.2.2 (ghC (fr (nf - 1)) c) (psA (fr (nf - 1)) c) nf = ((u', f', 0), (fun k => if k < c then some (psA (fr (nf - 1)) c k) else none), (0, fun _ => (0, 0, 0, 0, false)), fun _ => none) := by
      unfold enF
      rw [setF_s]
    rw [eB]
    have ll : c ≤ (locOf U' f').length := by
      unfold locOf
      rw [List.length_append]
      have : (tksOf U' f').length = c := tl
      unfold tksOf at this
      omega
    have lg : ∀ k, k < c → (locOf U' f').getD k [] = (tksOf U' f').getD k [] := fun k hk => by
      have : (tksOf U' f').length = c := tl
      unfold tksOf at this
      unfold locOf tksOf
      rw [List.getD_eq_getElem?_getD, List.getD_eq_getElem?_getD, List.getElem?_append_left (by omega)]
    refine ⟨by rw [c0], by omega, fun k hk => by omega, fun k hk => ⟨fun q => ?_, fun q s hs => ?_⟩, fun k hk => ?_⟩
    · have kc : k < c := by
        rw [(c1 k hk).1, tl] at q
        simpa using q
      refine ⟨psA (fr (nf - 1)) c k, if_pos kc, ?_⟩
      rw [lg k kc]
      obtain ⟨y1, y2⟩ := tk k kc
      rw [← k2' k kc] at y1 y2
      refine ⟨?_, ?_, fun r => ?_⟩
      · show ((fr (nf - 1)).2.2.1.2 ((fr (nf - 1)).2.2.1.1 - c + k)).2.1 = _
        rw [(kd k kc).1, y1]
      · show ((fr (nf - 1)).2.2.1.2 ((fr (nf - 1)).2.2.1.1 - c + k)).2.2.1 = _
        rw [(kd k kc).2.1, y2]
      · have := (c1 k hk).2 q (by rw [lg k kc]; exact r)
        exact ⟨this.1.symm, this.2.symm⟩
    · have kc : ¬ k < c := by
        rw [(c1 k hk).1, tl] at q
        simpa using q
      have hs' : (if k < c then some (psA (fr (nf - 1)) c k) else none) = some s := hs
      rw [if_neg kc] at hs'
      exact absurd hs' (by simp)
    · show (if k < c then some (psA (fr (nf - 1)) c k) else none) = none
      rw [if_neg (by omega)]
end
