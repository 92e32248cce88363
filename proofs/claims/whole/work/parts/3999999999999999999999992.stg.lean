/-! THE WORLD OF MODULES: what lies on the ledger is known; both tables hold the world -/
section
variable {ws ws' : Nat → Md} {wc wc' : Nat} {dp dp' : Nat → Nat → Nat} {led led' : Nat → Int64 → Nat → Nat}
theorem LTm.n0 {E : Ev} {x : Nd} {ts : List Nat} (h : LTm E 0 x ts) : False := by
  rcases h with h | h | h | h | h | h | h | h <;> omega
/-- a structure that a kept node is of is known -/
theorem SWo.kn (h : SWo ws wc dp) {Q : Hp} {sz : Nat} {tq : Nat → Nat} (hq : TyQ (evW ws wc dp led) Q sz tq) {i : Nat} (hi : i < sz) (h1 : 256 < tq i) (h2 : tq i < 2 ^ 32) : ∃ j, wfi ws ((tq i - 256) / 256) (wc + 1) 0 = some j ∧ (tq i - 256) % 256 < (ws j).1.2.1 := by
  obtain ⟨a1, a2, a3, a4, a5, a6, a7, a8⟩ := hq i hi
  rcases a2.ts with b | b
  · have b2 := b.2
    rw [if_neg (by omega), if_pos h1] at b2
    have b3 : (kds Q i).map tq = fM ws wc (tq i - 256) := b2
    have no : fM ws wc (tq i - 256) ≠ [0] := fun e => by
      rw [e] at b3
      have l := congrArg List.length b3
      rw [List.length_map] at l
      obtain ⟨c, ec⟩ := len1 (show (kds Q i).length = 1 from l)
      rw [ec] at b3
      have tc : tq c = 0 := by simpa using b3
      have cs := (a6 c (by rw [ec]; simp)).2
      have := (hq c cs).2.1
      rw [tc] at this
      exact this.n0
    unfold fM at no
    cases q : wfi ws ((tq i - 256) / 256) (wc + 1) 0 with
    | none => rw [q] at no; exact absurd rfl no
    | some j =>
      rw [q] at no
      refine ⟨j, rfl, ?_⟩
      by_cases c : (tq i - 256) % 256 < (ws j).1.2.1
      · exact c
      · exact absurd (show (if (tq i - 256) % 256 < (ws j).1.2.1 then _ else [0]) = [0] from if_neg c) no
  · omega
theorem SWo.knt (h : SWo ws wc dp) {id j : Nat} (hj : wfi ws (id / 256) (wc + 1) 0 = some j) (hs : id % 256 < (ws j).1.2.1) : KnT ws wc (256 + id) := by
  have wj := wfi_s hj
  have sm := (h.2.2.2 j (by omega)).1
  refine .inr ⟨j, [6, id % 256], by omega, PT_s (by have := sm.1.1.2.1.1; omega), ?_⟩
  rw [sT_s, sm.2.2.2.2.2.2.2.2.1 _ hs, wj.2.2]
  omega
theorem SWo.tkn (h : SWo ws wc dp) {Q : Hp} {sz k : Nat} {tq : Nat → Nat} (hq : TyQ (evW ws wc dp led) Q sz tq) (hk : k < 2 ^ 24) (t0 : tq 0 = 256 + k) : ∀ i, i < sz → KnT ws wc (tq i) := by
  intro i
  induction i using Nat.strongRecOn with
  | ind i ih =>
    intro hi
    by_cases c : i = 0
    · subst c
      rw [t0]
      by_cases c0 : k = 0
      · subst c0
        have z := h.1.zero
        exact h.knt (id := 0) z (by rw [h.1.1]; decide)
      · obtain ⟨j, j1, j2⟩ := h.kn hq hi (by omega) (by omega)
        rw [t0, show 256 + k - 256 = k by omega] at j1 j2
        exact h.knt j1 j2
    · obtain ⟨p, p1, p2⟩ := (hq i hi).2.2.2.2.2.2.2 (by omega)
      have kp := ih p p1 (by omega)
      have lp := (hq p (by omega)).2.1
      have mem : tq i ∈ (kds Q p).map tq := List.mem_map_of_mem p2
      rcases lp.ts with b | b
      · by_cases c1 : tq p = 256
        · rw [b.2, if_pos c1] at mem
          exact .inl (by simpa using mem)
        · by_cases c2 : 256 < tq p
          · obtain ⟨j, j1, j2⟩ := h.kn hq (show p < sz by omega) c2 b.1
            rw [b.2, if_neg c1, if_pos c2] at mem
            have mem' : tq i ∈ fM ws wc (tq p - 256) := mem
            rw [(h.fMo j1 j2).1] at mem'
            obtain ⟨t, t1, t2⟩ := List.mem_map.mp mem'
            have wj := wfi_s j1
            exact .inr ⟨j, t, by omega, ((h.2.2.2 j (by omega)).1.2.1 _ j2).2 t t1, t2.symm⟩
          · rw [b.2, if_neg c1, if_neg c2] at mem; cases mem
      · have e := b.2 _ mem
        rcases kp with k1 | ⟨u, y, u1, u2, u3⟩
        · omega
        · match y, u2 with
          | [x], hx =>
            have hx' : 1 ≤ x ∧ x ≤ 5 := hx
            have : sT (ws u).2.2.2.1 [x] = x := by simp [sT]
            omega
          | x :: w :: t', hx =>
            rcases hx with ⟨a1, a2, a3⟩ | ⟨a1, a2⟩
            · subst a1; subst a3
              have il := (h.2.2.2 u u1).1.2.2.2.2.2.2.2.1 w a2
              rw [sT_s] at u3
              omega
            · subst a1
              refine .inr ⟨u, w :: t', u1, a2, ?_⟩
              rw [sT_v a2] at u3
              omega
theorem KnT.dE (h : SWo ws wc dp) (ex : WEx ws wc dp ws' wc' dp') {t : Nat} (ht : KnT ws wc t) : dE ws' wc' dp' t = dE ws wc dp t := by
  rcases ht with e | ⟨i, y, i1, i2, e⟩
  · subst e; rfl
  · obtain ⟨k, b, l, e2, q⟩ := sT_lt (id := (ws i).2.2.2.1) i2
    rw [e, e2]
    unfold _root_.Jvm.Pilot.CResourceLedgerLaw_law_r8937_d13e27.dE
    rcases q with ⟨q1, q2, q3⟩ | ⟨s, q1, q2, q3⟩
    · rw [show (2 ^ 32 * k + b) % 2 ^ 32 = b by omega, if_pos (show b < 256 by omega), if_pos (show b < 256 by omega)]
    · have il := (h.2.2.2 i i1).1.2.2.2.2.2.2.2.1 s q2
      obtain ⟨j, j1, j2, j3, _⟩ := h.hm i1 q2
      rw [show (2 ^ 32 * k + b) % 2 ^ 32 = b by omega, if_neg (show ¬ b < 256 by omega), if_neg (show ¬ b < 256 by omega), q3, show 256 + (ws i).2.2.2.1 s - 256 = (ws i).2.2.2.1 s by omega, (ex _ j j2 j3).2]
theorem LTm.ex {E E' : Ev} {t : Nat} {x : Nd} {ts : List Nat} (h : LTm E t x ts) (he : 256 < t → t < 2 ^ 32 → E'.1 (t - 256) = E.1 (t - 256)) : LTm E' t x ts := by
  rcases h with h | h | h | h | h | h | h | h
  · exact .inl h
  · exact .inr (.inl h)
  · exact .inr (.inr (.inl h))
  · exact .inr (.inr (.inr (.inl h)))
  · exact .inr (.inr (.inr (.inr (.inl h))))
  · exact .inr (.inr (.inr (.inr (.inr (.inl h)))))
  · obtain ⟨a1, a2, a3, a4, a5, a6, a7⟩ := h
    exact .inr (.inr (.inr (.inr (.inr (.inr (.inl ⟨a1, a2, a3, a4, a5, by rw [he a1 a2]; exact a6, a7⟩))))))
  · exact .inr (.inr (.inr (.inr (.inr (.inr (.inr h))))))
theorem SWo.tyq (h : SWo ws wc dp) (ex : WEx ws wc dp ws' wc' dp') {Q : Hp} {sz k : Nat} {tq : Nat → Nat} (hq : TyQ (evW ws wc dp led) Q sz tq) (hk : k < 2 ^ 24) (t0 : tq 0 = 256 + k) : TyQ (evW ws' wc' dp' led') Q sz tq := fun i hi => by
  obtain ⟨a1, a2, a3, a4, a5, a6, a7, a8⟩ := hq i hi
  refine ⟨a1, a2.ex (fun c1 c2 => ?_), a3, ?_, a5, a6, a7, a8⟩
  · obtain ⟨j, j1, j2⟩ := h.kn hq hi c1 c2
    exact (ex _ j j1 j2).1
  · have a4' : dE ws wc dp (tq i) ≤ 38 := a4
    show dE ws' wc' dp' (tq i) ≤ 38
    rw [KnT.dE h ex (h.tkn hq hk t0 i hi)]
    exact a4'
theorem SWo.tye (h : SWo ws wc dp) (ex : WEx ws wc dp ws' wc' dp') : ∀ d En, TyE (fM ws wc) d En → TyE (fM ws' wc') d En := by
  intro d
  induction d with
  | zero => intro En q; exact q
  | succ d ih =>
    intro En q
    obtain ⟨e, Es, e1, e2, e3, e4, e5⟩ := q
    refine ⟨e, Es, e1, e2, e3, ?_, fun x hx => ih x (e5 x hx)⟩
    rcases e4 with w | w | w | w
    · exact .inl w
    · exact .inr (.inl w)
    · obtain ⟨w1, w2, w3, w4, w5⟩ := w
      have no : fM ws wc (e.2.2.2.2 - 256) ≠ [0] := fun z => by
        rw [z] at w5
        have l := congrArg List.length w5
        rw [List.length_map] at l
        obtain ⟨x, ex'⟩ := len1 (show Es.length = 1 from l)
        rw [ex'] at w5
        have hx : hty x = 0 := by simpa using w5
        have tx := e5 x (by rw [ex']; simp)
        cases d with
        | zero => exact tx
        | succ d =>
          obtain ⟨e', Es', x1, _, _, x4, _⟩ := tx
          rw [x1] at hx
          have hx' : e'.2.2.2.2 = 0 := hx
          rw [hx'] at x4
          rcases x4 with v | v | v | v <;> omega
      have kk : ∃ j, wfi ws ((e.2.2.2.2 - 256) / 256) (wc + 1) 0 = some j ∧ (e.2.2.2.2 - 256) % 256 < (ws j).1.2.1 := by
        unfold fM at no
        cases q : wfi ws ((e.2.2.2.2 - 256) / 256) (wc + 1) 0 with
        | none => rw [q] at no; exact absurd rfl no
        | some j =>
          rw [q] at no
          refine ⟨j, rfl, ?_⟩
          by_cases c : (e.2.2.2.2 - 256) % 256 < (ws j).1.2.1
          · exact c
          · exact absurd (show (if (e.2.2.2.2 - 256) % 256 < (ws j).1.2.1 then _ else [0]) = [0] from if_neg c) no
      obtain ⟨j, j1, j2⟩ := kk
      exact .inr (.inr (.inl ⟨w1, w2, w3, w4, by rw [(ex _ j j1 j2).1]; exact w5⟩))
    · exact .inr (.inr (.inr w))
theorem SWo.resR (h : SWo ws wc dp) (ex : WEx ws wc dp ws' wc' dp') {Q : Hp} {sz k : Nat} {En : List Ent} (hk : k < 2 ^ 24) (r : ResR (evW ws wc dp led) (fM ws wc) Q sz k En) : ResR (evW ws' wc' dp' led') (fM ws' wc') Q sz k En := by
  obtain ⟨d, tq, r1, r2, r3, r4, r5, r6, r7⟩ := r
  exact ⟨d, tq, h.tye ex d En r1, r2, r3, r4, h.tyq ex r5 hk r6, r6, r7⟩
variable {nc nr D : Nat} {ac : Nat → Int64 × Int64 × Int64} {rs : Nat → Int64 × Nat × Hp × Nat} {so : Nat → Option Rsc}
theorem SWo.rsP (h : SWo ws wc dp) (ex : WEx ws wc dp ws' wc' dp') (r : RsP (evW ws wc dp led) (fM ws wc) nr rs so) : RsP (evW ws' wc' dp' led') (fM ws' wc') nr rs so := by
  obtain ⟨r1, r2⟩ := r
  refine ⟨fun i hi => ?_, r2⟩
  obtain ⟨a1, q, x, a2, a3, a4, a5, a6⟩ := r1 i hi
  exact ⟨a1, q, x, a2, a3, a4, a5, h.resR ex a1 a6⟩
theorem TyQ.uq {E : Ev} {Q : Hp} {sz : Nat} {tq tq' : Nat → Nat} (h : TyQ E Q sz tq) (h' : TyQ E Q sz tq') (t0 : tq 0 = tq' 0) : ∀ i, i < sz → tq i = tq' i := by
  intro i
  induction i using Nat.strongRecOn with
  | ind i ih =>
    intro hi
    by_cases c : i = 0
    · subst c; exact t0
    · obtain ⟨p, p1, p2⟩ := (h i hi).2.2.2.2.2.2.2 (by omega)
      have e := ih p p1 (by omega)
      have l1 := (h p (by omega)).2.1
      have l2 := (h' p (by omega)).2.1
      rw [e] at l1
      exact List.map_inj_left.mp (l1.uq l2 (by rw [List.length_map, List.length_map])) i p2
theorem SWo.ldT (h : SWo ws wc dp) (ex : WEx ws wc dp ws' wc' dp') (r : RsP (evW ws wc dp led) (fM ws wc) nr rs so) (t : LdT (evW ws wc dp led) D nc ac nr rs) : LdT (evW ws' wc' dp' led') D nc ac nr rs := by
  obtain ⟨ld, ⟨h1, h2⟩, h3⟩ := t
  refine ⟨ld, ⟨h1, fun i tq hi hq t0 => ?_⟩, h3⟩
  obtain ⟨a1, q, x, a2, a3, a4, a5, d, tq0, _, _, _, _, b5, b6, _⟩ := r.1 i hi
  have u := hq.uq (h.tyq (led' := led') ex b5 a1 b6) (by rw [t0, b6])
  have e : qS (rs i).2.2.1 tq (rs i).2.2.2 = qS (rs i).2.2.1 tq0 (rs i).2.2.2 := sN_cg (fun v hv => by rw [u v hv])
  rw [e]
  exact h2 i tq0 hi b5 b6
end
section
variable {F n : Nat} {sh : Nat → Nat × Nat} {z y z' y' : St} {ws : Nat → Md} {wc : Nat} {dp : Nat → Nat → Nat}
theorem TbR.lay (h : Lay sh n z) (f : TbR z z') : Lay sh n z' := ⟨h.1, h.2.1, fun k j x q => by
  rw [f.1 k j]
  · exact h.2.2 k j x q
  · by_cases c : k = 337 ∧ j = 48
    · rw [c.1, c.2] at q
      have : lkF 337 48 = none := rfl
      rw [this] at q; cases q
    · omega⟩
theorem lkf98 : ∀ j, lkF 98 j = none := fun j => rfl
theorem TbC.lay (h : Lay sh n y) (f : TbC y y') : Lay sh n y' := ⟨h.1, h.2.1, fun k j x q => by
  rw [f.1 k j]
  · exact h.2.2 k j x q
  · intro c; rw [c, lkf98 j] at q; cases q
  · intro c
    rw [c.1, c.2] at q
    have : lkF 87 13 = none := rfl
    rw [this] at q; cases q⟩
/-- the programs, and behind them which locals are references -/
def pkW (ws : Nat → Md) : Nat → Nat := fun x => if x < 10 then 15 + 5 * x else if isR ((locOf (ws ((x - 10) / 64 / 65536)) ((x - 10) / 64 % 65536)).getD ((x - 10) % 64) []) = true then 1 else 0
theorem lgW_of (hS : SWo ws wc dp) : LgW (pkW ws) (msW ws wc) := fun u U e f k hf hk => by
  obtain ⟨u1, u2, eU⟩ := msW_s e
  subst eU
  have s := (hS.2.2.2 u u2).1
  have f64 := s.2.2.2.2.2.1.2.1
  have l40 := (s.1.2 f hf).2.1
  have e0 : 10 + ((u * 65536 + f) * 64 + k) - 10 = (u * 65536 + f) * 64 + k := by omega
  have e1 : ((u * 65536 + f) * 64 + k) / 64 = u * 65536 + f := by omega
  have e2 : ((u * 65536 + f) * 64 + k) % 64 = k := by omega
  have e3 : (u * 65536 + f) / 65536 = u := by omega
  have e4 : (u * 65536 + f) % 65536 = f := by omega
  unfold Lgn pkW
  rw [if_neg (by omega), e0, e1, e2, e3, e4]
  by_cases q : isR ((locOf (ws u) f).getD k []) = true
  · rw [if_pos q]; exact ⟨fun _ => q, fun _ => rfl⟩
  · rw [if_neg q]; exact ⟨fun w => absurd w (by decide), fun w => absurd w q⟩
/-- both tables hold the world -/
theorem dyT_of (hF : 3000 ≤ F) (hS : SWo ws wc dp) (hR : RWo sh n z ws wc dp) (hC : CWo sh n y ws wc dp) : DyT F sh n z y (fun u => 423 + 9 * u) (pkW ws) (msW ws wc) := fun u U e => by
  obtain ⟨u1, u2, eU⟩ := msW_s e
  subst eU
  have w8 := hS.2.2.1
  have nn := ((hS.2.2.2 u u2).2.2.2.2.2 u1).1
  have n6 := hS.1.2.1 u u2
  have at_ := hS.1.at u2
  refine ⟨(b_units hR.1 (i := u) (by omega)).1, fun z' f => ?_, ?_⟩
  · have L' := TbR.lay hR.1 f
    have um : ∀ i, 1 ≤ i → i ≤ wc → ∃ b len M, UM sh n z' (423 + 9 * i) b len M ∧ ws i = mdOf b M ∧ 6 ≤ len ∧ (allC M.2.2.2.2).length ≤ len := fun i a b => by
      obtain ⟨⟨b', len, M, c1, c2, c3, c4, c5⟩, _⟩ := hR.2.2.2 i a b
      exact ⟨b', len, M, c1.fmk L' (fun k k1 k2 => (f.2.1 k (by omega) (by omega)).1), c2, c4, c5⟩
    constructor
    · obtain ⟨b', len, M, c1, c2, c4, c5⟩ := um u u1 u2
      rw [c2]
      exact c1.run hF c4 c5
    · have := rfind (F := F) (by omega) L' (by rw [f.2.2]; exact hR.2.1) w8 (fun i a b => by
        obtain ⟨b', len, M, c1, c2, c4, c5⟩ := um i a b
        exact ⟨b', len, M, c1, c2, c4⟩) hS.1 nn n6
      rw [this]
      unfold wix
      rw [at_]
  · obtain ⟨⟨kb, b, len, M, c1, c2, c3⟩, _⟩ := hC.2.2.2 u u2
    refine ⟨plM M, abM b len M, fun y' f => ?_⟩
    have L' := TbC.lay hC.1 f
    have k513 := c3.1
    have pe : pkW ws u = 15 + 5 * u := if_pos (by omega)
    rw [pe]
    constructor
    · rw [c2]
      exact CPr.cUn (by omega) (c1.of2 L' (f.1 _ _ (by omega) (by omega)) (fun k k1 k2 => f.2.1 k (by omega)) (f.2.1 kb (by omega)).1) c3.2.1
    · have := (hC.of2 L' f.2.2 (fun i hi => ⟨f.1 _ _ (by omega) (by omega), fun k k1 k2 => f.2.1 k (by omega)⟩) (fun k hk => (f.2.1 k (by omega)).1)).find (F := F) (by omega) hS.1.2.1 n6
      rw [this, at_]
end
