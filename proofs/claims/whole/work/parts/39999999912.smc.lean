/-! BOTH MACHINES SIDE BY SIDE: frames that differ above their heights alone; what an operation comes to -/
section
variable {E : Ev} {H : Hp} {m : Nat} {ty : Nat → Nat} {fr fr' : Nat → Fm} {nf na : Nat} {ak : Nat → Ask} {hd : Nat → Option Nat}
def FmE (x y : Fm) : Prop := (x.1.1 = y.1.1 ∧ x.1.2.1 = y.1.2.1) ∧ x.2.1 = y.2.1 ∧ x.2.2.1.1 = y.2.2.1.1 ∧ (∀ k, k < x.2.2.1.1 → x.2.2.1.2 k = y.2.2.1.2 k) ∧ x.2.2.2 = y.2.2.2
theorem MJ.fcong (I : MJ E H m ty fr nf na ak hd) (e : ∀ d, FmE (fr d) (fr' d)) : MJ E H m ty fr' nf na ak hd := by
  have eL : LvA fr' nf na ak hd = LvA fr nf na ak hd := by
    funext a d k
    obtain ⟨e1, e2, e3, e4, e5⟩ := e d
    unfold LvA
    rw [← e3, ← e2]
    by_cases c : a = 0
    · rw [if_pos c, if_pos c]
      by_cases q : d < nf ∧ k < (fr d).2.2.1.1
      · rw [if_pos q, if_pos q, e4 k q.2]
      · rw [if_neg q, if_neg q]
    · rw [if_neg c, if_neg c]
  have eR : RfA fr' nf = RfA fr nf := by
    funext d s
    obtain ⟨e1, e2, e3, e4, e5⟩ := e d
    unfold RfA
    rw [← e3, ← e2, ← e5]
    apply propext
    constructor
    · rintro ⟨a, b, ⟨k, k1, k2⟩ | c⟩
      · exact ⟨a, b, .inl ⟨k, k1, by rw [e4 k k1]; exact k2⟩⟩
      · exact ⟨a, b, .inr c⟩
    · rintro ⟨a, b, ⟨k, k1, k2⟩ | c⟩
      · exact ⟨a, b, .inl ⟨k, k1, by rw [← e4 k k1]; exact k2⟩⟩
      · exact ⟨a, b, .inr c⟩
  have eG : ghA fr' nf = ghA fr nf := by
    funext d k
    unfold ghA
    rw [(e d).2.2.2.2]
  have eS : rsA E fr' nf = rsA E fr nf := by
    funext d
    unfold rsA
    rw [(e d).1.1, (e d).1.2]
  have eB : rbA E fr' ak = rbA E fr ak := by
    funext d j
    unfold rbA
    rw [(e d).1.1]
  obtain ⟨i1, i2, i3, i4, i5, i6, i7⟩ := I
  refine ⟨by rw [eL, eR, eG, eS, eB]; exact i1, i2, fun d hd => ?_, i4, i5, fun k hk => ?_, i7.1, by rw [eL]; exact i7.2⟩
  · obtain ⟨e1, e2, e3, e4, e5⟩ := e d
    obtain ⟨j1, j2, j3⟩ := i3 d hd
    refine ⟨fun k hk => ?_, fun k s hk => j2 k s (by rw [e2]; exact hk), fun k s hk => j3 k s (by rw [e5]; exact hk)⟩
    rw [← e3] at hk
    rw [← e4 k hk]; exact j1 k hk
  · rw [← (e (nf - 1)).2.2.2.2]; exact i6 k hk
theorem FmE.set {d : Nat} {x y : Fm} (h : FmE x y) : ∀ i, FmE (setF fr d x i) (setF fr d y i) := fun i => by
  by_cases c : i = d
  · subst c; rw [setF_s, setF_s]; exact h
  · rw [setF_n c, setF_n c]; exact ⟨⟨rfl, rfl⟩, rfl, rfl, fun _ _ => rfl, rfl⟩
theorem FmE.psh (x : Fm) (a : Nat) (s : Sl) : FmE (setS (setH x a) a s) (pshV (setH x a) s) := by
  refine ⟨⟨rfl, rfl⟩, rfl, rfl, fun k hk => ?_, rfl⟩
  have hk' : k < a + 1 := hk
  show (if k = a then s else x.2.2.1.2 k) = (if k < a then x.2.2.1.2 k else s)
  by_cases c : k = a
  · rw [if_pos c, if_neg (by omega)]
  · rw [if_neg c, if_pos (by omega)]
/-- a reference is given -/
theorem MJ.prV (I : MJ E H m ty fr nf na ak (fun _ => none)) (c : Nat) {s : Sl} (h : rOk E H fr nf na ak (fun _ => none) s) (ht : SlT H ty s) (h9 : s.2.1 ≠ 0) : MJ E H m ty (setF fr (nf - 1) (pshV (setH (fr (nf - 1)) ((fr (nf - 1)).2.2.1.1 - c)) s)) nf na ak (fun _ => none) := (I.pr c h ht h9).fcong (FmE.set (FmE.psh _ _ _))
theorem FM.psh {U : Md} {ls : List Ty} {x : Fm} {L L' : Lks} (h : FM U ls x L) {s : Sl} {q : SS} (hp : lPush q L = .ok L') (hs : SMt U.2.2.2.1 s q) (ht : STy U.1.2.2 q.1) : FM U ls (pshV x s) L' := by
  obtain ⟨c, e⟩ := push_ok hp
  obtain ⟨h1, h2, h3, h4, h5⟩ := h
  subst e
  refine ⟨by simp only [pshV, setN]; omega, by simp only; omega, fun k hk => ?_, h4, h5⟩
  simp only [pshV, setN] at hk ⊢
  by_cases ck : k = L.1.1
  · rw [if_neg (by omega), if_pos ck]; exact ⟨hs, ht⟩
  · rw [if_pos (by omega), if_neg ck]; exact h3 k (by omega)
end
/-- what the world of types knows of a module -/
def UOk (E : Ev) (u : Nat) (U : Md) : Prop := (∀ k, 1 ≤ k → k ≤ 5 → E.2.1 k ≤ 38) ∧ (∀ t, t ∈ elsOf U → PT U.1.2.2 t ∧ E.2.1 (2 ^ 32 + sT U.2.2.2.1 t) ≤ 38 ∧ sT U.2.2.2.1 t ≠ 11) ∧ (∀ a, a < U.1.2.1 → U.2.2.2.1 a ≠ 0 ∧ U.2.2.2.1 a < 2 ^ 24 ∧ E.1 (U.2.2.2.1 a) = (fdsOf U a).map (sT U.2.2.2.1) ∧ (∀ t, t ∈ fdsOf U a → PT U.1.2.2 t) ∧ E.2.1 (256 + U.2.2.2.1 a) ≤ 38 ∧ 1 ≤ (fdsOf U a).length ∧ (fdsOf U a).length ≤ 64) ∧ (∀ a, a < U.1.2.1 → E.2.2.2.1 u (U.2.2.2.1 a) = 48 + a % 15) ∧ (∀ f, E.2.2.1 u f = resOf U f) ∧ U.1.2.1 ≤ U.1.2.2 ∧ E.2.1 (2 ^ 32 + 2) ≤ 38 ∧ ∀ t, PT U.1.2.2 t → hasC U t = true → NCl E (sT U.2.2.2.1 t)
/-- places that were asked for stay, with their names; gas grows -/
def AkL (na : Nat) (ak : Nat → Ask) (g na' : Nat) (ak' : Nat → Ask) (g' : Nat) : Prop := na ≤ na' ∧ g ≤ g' ∧ ∀ j, j < na → (ak' j).1 = (ak j).1 ∧ (ak' j).2.1 = (ak j).2.1 ∧ (ak' j).2.2.1 = (ak j).2.2.1
theorem AkL.same {na g g' : Nat} {ak : Nat → Ask} (h : g ≤ g') : AkL na ak g na ak g' := ⟨Nat.le_refl _, h, fun _ _ => ⟨rfl, rfl, rfl⟩⟩
theorem AkL.trans {na na1 na2 g g1 g2 : Nat} {ak ak1 ak2 : Nat → Ask} (h : AkL na ak g na1 ak1 g1) (h' : AkL na1 ak1 g1 na2 ak2 g2) : AkL na ak g na2 ak2 g2 := ⟨Nat.le_trans h.1 h'.1, Nat.le_trans h.2.1 h'.2.1, fun j hj => by
  have a := h.2.2 j hj
  have b := h'.2.2 j (Nat.lt_of_lt_of_le hj h.1)
  exact ⟨b.1.trans a.1, b.2.1.trans a.2.1, b.2.2.trans a.2.2⟩⟩
theorem AkL.up {na g g' g2 na' j : Nat} {ak ak' : Nat → Ask} {x : Ask} (h : AkL na ak g na' ak' g') (hg : g' ≤ g2) (h1 : x.1 = (ak' j).1) (h2 : x.2.1 = (ak' j).2.1) (h3 : x.2.2.1 = (ak' j).2.2.1) : AkL na ak g na' (upA ak' j x) g2 := ⟨h.1, Nat.le_trans h.2.1 hg, fun i hi => by
  have a := h.2.2 i hi
  by_cases q : i = j
  · subst q; rw [upA_s]; exact ⟨h1.trans a.1, h2.trans a.2.1, h3.trans a.2.2⟩
  · rw [upA_n q]; exact a⟩
/-- both go on in the same frame, or both end alike. P: where the next instruction lies -/
def Out (E : Ev) (sh : Nat → Nat × Nat) (n : Nat) (pk : Nat → Nat) (kt : Nat) (sl0 : Int32) (lim : Nat) (zr zc : St) (fr : Nat → Fm) (nf na : Nat) (ak : Nat → Ask) (g : Nat) (ws : Nat → Int64 → Nat → Bool) (U : Md) (ls : List Ty) (L' : Lks) (P : Nat → Prop) (R C : Option (St × Unit)) : Prop := ∃ zr' zc', R = some (zr', ()) ∧ C = some (zc', ()) ∧ FrR zr zr' ∧ FrX zc zc' ∧ ((∃ o c g', (o = 1 ∨ o = 2) ∧ RE sh n zr' o c g' ∧ CE sh n zc' o c g' sl0) ∨ ∃ H' m' ty' x na' ak' g' Hc' mc' phi' Rn' cs' cl' cn', Sm E sh n pk kt sl0 lim 0 zr' zc' H' m' ty' (setF fr (nf - 1) x) nf na' ak' g' Hc' mc' phi' Rn' cs' cl' cn' ws ∧ AkL na ak g na' ak' g' ∧ x.1.1 = (fr (nf - 1)).1.1 ∧ x.1.2.1 = (fr (nf - 1)).1.2.1 ∧ P x.1.2.2 ∧ FM U ls x L')
section
variable {E : Ev} {F n : Nat} {sh : Nat → Nat × Nat} {pk : Nat → Nat} {kt : Nat} {sl0 : Int32} {lim e : Nat} {zr zc zr' zc' : St} {H : Hp} {m : Nat} {ty : Nat → Nat} {fr : Nat → Fm} {nf na : Nat} {ak : Nat → Ask} {g g' : Nat} {Hc : Hp} {mc : Nat} {phi : Nat → Nat} {Rn : Nat → Option Nat} {cs cl : Nat → Nat → Nat} {cn : Nat → Nat} {ws : Nat → Int64 → Nat → Bool} {U : Md} {ls : List Ty} {L L' : Lks}
/-- a value on the stack -/
theorem Sm.pl (h : Sm E sh n pk kt sl0 lim e zr zc H m ty fr nf na ak g Hc mc phi Rn cs cl cn ws) {k : Nat} (hk : k < (fr (nf - 1)).2.2.1.1) {q : SS} {ns : Nat} {id : Nat → Nat} (hm : SMt id ((fr (nf - 1)).2.2.1.2 k) q) (hp : PT ns q.1) : ((fr (nf - 1)).2.2.1.2 k).2.1 = 0 ∧ cs (nf - 1) k = phi ((fr (nf - 1)).2.2.1.2 k).1 ∧ (H ((fr (nf - 1)).2.2.1.2 k).1).1 ≠ 0 ∧ ty ((fr (nf - 1)).2.2.1.2 k).1 = sT id q.1 ∧ ((fr (nf - 1)).2.2.1.2 k).1 < m := by
  have n0 := h.nf0
  have V := Vs_0 (fr := fr) (cs := cs) (cl := cl) (nf := nf) (d := nf - 1) (by omega) hk
  have s1 := h.slot V
  have s2 := h.2.2.2.2.2.1.1 _ _ _ _ _ V
  have z : ((fr (nf - 1)).2.2.1.2 k).2.1 = 0 := by rw [hm.1]; exact sR_p hp
  exact ⟨z, s2.1 z, s1.1, s1.2.2.trans hm.2.1, s1.2.1⟩
/-- a reference on the stack: its class's node and target -/
theorem Sm.rf (h : Sm E sh n pk kt sl0 lim e zr zc H m ty fr nf na ak g Hc mc phi Rn cs cl cn ws) {k : Nat} (hk : k < (fr (nf - 1)).2.2.1.1) {q : SS} {id : Nat → Nat} (hm : SMt id ((fr (nf - 1)).2.2.1.2 k) q) (hr : isR q.1 = true) : ((fr (nf - 1)).2.2.1.2 k).2.1 = hdT q.1 ∧ ((fr (nf - 1)).2.2.1.2 k).2.1 ≠ 0 ∧ Rn (cs (nf - 1) k) = some ((fr (nf - 1)).2.2.1.2 k).1 ∧ (H ((fr (nf - 1)).2.2.1.2 k).1).1 ≠ 0 ∧ ty ((fr (nf - 1)).2.2.1.2 k).1 = sT id q.1 ∧ ((fr (nf - 1)).2.2.1.2 k).1 < m ∧ Hc (cs (nf - 1) k) = (8, 0, lN (phi ((fr (nf - 1)).2.2.1.2 k).1), []) := by
  have n0 := h.nf0
  have V := Vs_0 (fr := fr) (cs := cs) (cl := cl) (nf := nf) (d := nf - 1) (by omega) hk
  have s1 := h.slot V
  have s2 := h.2.2.2.2.2.1.1 _ _ _ _ _ V
  have z : ((fr (nf - 1)).2.2.1.2 k).2.1 = hdT q.1 := by rw [hm.1, sR, if_pos hr]
  have z0 : ((fr (nf - 1)).2.2.1.2 k).2.1 ≠ 0 := by
    rw [z]
    unfold isR at hr
    simp only [Bool.or_eq_true, beq_iff_eq] at hr
    omega
  exact ⟨z, z0, s2.2 z0, s1.1, s1.2.2.trans hm.2.1, s1.2.1, (h.2.2.2.2.1.2.2.1 _ _ (s2.2 z0)).1⟩
/-- a number on both sides -/
theorem Sm.prim (h : Sm E sh n pk kt sl0 lim e zr zc H m ty fr nf na ak g Hc mc phi Rn cs cl cn ws) {v t : Nat} (hv : (H v).1 ≠ 0) (ht : ty v = t) (h1 : 1 ≤ t) (h5 : t ≤ 5) : (H v).1 = t ∧ (Hc (phi v)).1 = t ∧ (Hc (phi v)).2.1 = (H v).2.1 ∧ (Hc (phi v)).2.2.1 = (H v).2.2.1 ∧ LTm E t (H v) ((kds H v).map ty) := by
  have lt := (h.ht.2 v hv).2.1
  rw [ht] at lt
  have hk := lt.kt.1
  rw [if_neg (by omega), if_pos (by omega)] at hk
  rcases h.2.2.2.2.1.1 v hv (by omega) with ⟨c1, _⟩ | ⟨_, c2, _, c4⟩
  · omega
  · have c5 := c4 (by unfold inn; omega)
    exact ⟨hk, by rw [c2, hk], c5.1, c5.2, lt⟩
end
