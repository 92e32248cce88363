/-! BOTH MACHINES SIDE BY SIDE: which operation is which, constants, module 0 -/
def ckC (U : Md) (k : Nat) : Prop := PT U.1.2.2 [6, k] ∧ U.2.2.2.1 k = 0
def CoinSig (U : Md) (a f : Nat) : Prop := (f = 0 ∧ tksOf U a = [[3]] ∧ ∃ k, ckC U k ∧ gvsOf U a = [[6, k]]) ∨ (f = 1 ∧ (∃ k, ckC U k ∧ tksOf U a = [[5], [6, k]]) ∧ gvsOf U a = []) ∨ (f = 2 ∧ (∃ r k, (r = 8 ∨ r = 9) ∧ ckC U k ∧ tksOf U a = [r :: [6, k]]) ∧ gvsOf U a = [[3]]) ∨ (f = 3 ∧ (∃ k k2, ckC U k ∧ ckC U k2 ∧ tksOf U a = [[6, k2], [6, k]]) ∧ ∃ k3, ckC U k3 ∧ gvsOf U a = [[6, k3]]) ∨ (f = 4 ∧ (∃ k, ckC U k ∧ tksOf U a = [[6, k], [3]]) ∧ ∃ k2 k3, ckC U k2 ∧ ckC U k3 ∧ gvsOf U a = [[6, k2], [6, k3]]) ∨ (f = 5 ∧ tksOf U a = [[5]] ∧ gvsOf U a = [[3]])
theorem gvA_p {args : List SS} {t : Ty} (h : isR t = false) : gvA args t = (t, 0, false) := by
  unfold gvA rO rI
  rw [h]
  rfl
theorem gives1 {s : SS} {M L' : Lks} (h : aGives [s] M = .ok L') : lPush s M = .ok L' := by
  obtain ⟨N1, h1, h2⟩ := px_ok (show (lPush s M >>= aGives []) = .ok L' from h)
  have : N1 = L' := by
    have h2' : (.ok N1 : Px Lks) = .ok L' := h2
    cases h2'; rfl
  rw [← this]; exact h1
section
variable {E : Ev} {F n : Nat} {sh : Nat → Nat × Nat} {pk : Nat → Nat} {kt : Nat} {sl0 : Int32} {lim e : Nat} {zr zc zr' zc' : St} {H : Hp} {m : Nat} {ty : Nat → Nat} {fr : Nat → Fm} {nf na : Nat} {ak : Nat → Ask} {g g' : Nat} {Hc : Hp} {mc : Nat} {phi : Nat → Nat} {Rn : Nat → Option Nat} {cs cl : Nat → Nat → Nat} {cn : Nat → Nat} {ws : Nat → Int64 → Nat → Bool} {u : Nat} {U : Md} {ls : List Ty} {L L' : Lks} {x y : Int64} {p : Nat} {w : Int32} {R C : Option (St × Unit)}
variable {SF : Nat → List Nat} {sd : Int64} {nc nr nrc : Nat} {ac acC : Nat → Int64 × Int64 × Int64} {rs : Nat → Int64 × Nat × Hp × Nat} {so : Nat → Option Rsc}
/-- 5 .. 10, 46 -/
theorem dis_const (h : Sm E sh n pk kt sl0 lim 1 zr zc H m ty fr nf na ak g Hc mc phi Rn cs cl cn ws) (hE : EvOk E) (hU : UOk E u U) (fm : FM U ls (fr (nf - 1)) L) {o f a b a0 : Nat} (ho : (5 ≤ o ∧ o ≤ 10) ∨ o = 46) (op : okO sh n p 5 = true) (h5 : o = 5 → ∃ b : Nat, b < 256 ∧ x = lN b ∧ fn_X5_at F sh n zc p (w + 1) = some (zc, nI b)) (h6 : o = 6 ∨ o = 7 ∨ o = 10 → fn_X5_numberAt F sh n zc p (w + 1) 8 = some (zc, x)) (h7 : o = 7 → fn_X5_numberAt F sh n zc p (w + 1 + 8) 8 = some (zc, y)) (hsd : zr.2.1 337 24 = zc.2.1 kt 1) (hop : aOp U f o a b L = .ok L') : Out E sh n pk kt sl0 lim zr zc fr nf na ak g ws U ls L' (fun i => i = (fr (nf - 1)).1.2.2) (oneD F sh n (nI o) x y zr) (stepD F sh n p w (nI o) (nI a0) zc) := by
  rw [stepD_se (by clear h5 h6 h7; omega)]
  unfold aOp at hop
  simp only at hop
  have hc : o = 5 ∨ o = 6 ∨ o = 7 ∨ o = 8 ∨ o = 9 ∨ o = 10 ∨ o = 46 := by clear h5 h6 h7; omega
  rcases hc with c | c | c | c | c | c | c <;> subst c
  · have hp : lPush ([2], 0, false) L = .ok L' := hop
    obtain ⟨b5, y1, y2, y3⟩ := h5 rfl
    rw [oneD_5]
    exact sim_const (a0 := 0) h hE hU fm (o := 5) (k := 2) (x' := 0) (y' := x) (.inl ⟨by decide, by decide⟩) rfl rfl rfl (fun _ => ⟨b5, y1, y2⟩) op (.inl ⟨rfl, rfl, rfl, b5, y1, y2, y3⟩) hp
  · have hp : lPush ([3], 0, false) L = .ok L' := hop
    rw [oneD_6]
    exact sim_const (a0 := 0) h hE hU fm (o := 6) (k := 3) (x' := 0) (y' := x) (.inl ⟨by decide, by decide⟩) rfl rfl rfl (fun q => absurd q (by decide)) op (.inr (.inl ⟨rfl, rfl, rfl, h6 (.inl rfl)⟩)) hp
  · have hp : lPush ([4], 0, false) L = .ok L' := hop
    rw [oneD_7]
    exact sim_const (a0 := 0) h hE hU fm (o := 7) (k := 4) (x' := x) (y' := y) (.inl ⟨by decide, by decide⟩) rfl rfl rfl (fun q => absurd q (by decide)) op (.inr (.inr (.inl ⟨rfl, rfl, h6 (.inr (.inl rfl)), h7 rfl⟩))) hp
  · have hp : lPush ([1], 0, false) L = .ok L' := hop
    rw [oneD_8]
    exact sim_const (a0 := 0) h hE hU fm (o := 8) (k := 1) (x' := 0) (y' := 1) (.inl ⟨by decide, by decide⟩) rfl rfl rfl (fun q => absurd q (by decide)) op (.inr (.inr (.inr (.inl ⟨rfl, rfl, rfl, rfl⟩)))) hp
  · have hp : lPush ([1], 0, false) L = .ok L' := hop
    rw [oneD_9]
    exact sim_const (a0 := 0) h hE hU fm (o := 9) (k := 1) (x' := 0) (y' := 0) (.inl ⟨by decide, by decide⟩) rfl rfl rfl (fun q => absurd q (by decide)) op (.inr (.inr (.inr (.inr (.inl ⟨rfl, rfl, rfl, rfl⟩))))) hp
  · have hp : lPush ([5], 0, false) L = .ok L' := hop
    rw [oneD_10]
    exact sim_const (a0 := 0) h hE hU fm (o := 10) (k := 5) (x' := 0) (y' := x) (.inl ⟨by decide, by decide⟩) rfl rfl rfl (fun q => absurd q (by decide)) op (.inr (.inr (.inr (.inr (.inr (.inl ⟨rfl, rfl, rfl, h6 (.inr (.inr rfl))⟩)))))) hp
  · have hp : lPush ([5], 0, false) L = .ok L' := hop
    rw [oneD_46]
    exact sim_const (a0 := 0) h hE hU fm (o := 46) (k := 5) (x' := 0) (y' := zr.2.1 337 24) (.inr rfl) rfl rfl rfl (fun q => absurd q (by decide)) op (.inr (.inr (.inr (.inr (.inr (.inr ⟨rfl, rfl, rfl, hsd⟩)))))) hp
/-- a function of module 0 -/
theorem dis_coin (hF : 300 ≤ F) (h : Sm E sh n pk kt sl0 lim 1 zr zc H m ty fr nf na ak g Hc mc phi Rn cs cl cn ws) (hE : EvOk E) (hA : EvA E) (hU : UOk E u U) (hC : E.2.1 256 ≤ 38 ∧ E.2.1 11 ≤ 38) (rl : RLg zr nc ac nr rs) (cg : CLg zc nc acC nrc so) (lg : LgR E SF sd nc ac acC nr rs so ws) (h0 : 0 < na ∧ (ak 0).1 = 1 ∧ (ak 0).2.1 = sd) (fm : FM U ls (fr (nf - 1)) L) {a f f0 : Nat} (hc : aCall U ls f0 a L = .ok L') (sg : CoinSig U a f) : Out E sh n pk kt sl0 lim zr zc fr nf na ak g ws U ls L' (fun i => i = (fr (nf - 1)).1.2.2) (fn_X18_coin F sh n zr 337 (nI f)) (fn_X4_useCoin F sh n zc 87 (nI f)) := by
  obtain ⟨k1, k2, _, _, _, k6⟩ := call_ok hc
  have r6 : ∀ k, isR [6, k] = false := fun _ => rfl
  have r3 : isR [3] = false := rfl
  have g6 : ∀ k args, gvA args [6, k] = ([6, k], 0, false) := fun k args => gvA_p (r6 k)
  have g3 : ∀ args, gvA args [3] = ([3], 0, false) := fun args => gvA_p r3
  rcases sg with ⟨q, s1, k, ⟨pt, hid⟩, s2⟩ | ⟨q, ⟨k, ⟨pt, hid⟩, s1⟩, s2⟩ | ⟨q, ⟨r, k, r1, ⟨pt, hid⟩, s1⟩, s2⟩ | ⟨q, ⟨k, kb, ⟨pt, hid⟩, ⟨ptb, hidb⟩, s1⟩, kc, ⟨ptc, hidc⟩, s2⟩ | ⟨q, ⟨k, ⟨pt, hid⟩, s1⟩, kb, kc, ⟨ptb, hidb⟩, ⟨ptc, hidc⟩, s2⟩ | ⟨q, s1, s2⟩ <;> subst q <;> simp only [s1, s2, List.length_cons, List.length_nil, List.map_cons, List.map_nil, g6, g3] at k1 k2 k6
  · exact sim_c0 hF h hE hC fm ⟨h0.1, h0.2.1⟩ (by omega) (k2 0 (by omega)) pt hid (gives1 k6)
  · have k6' : (.ok ((L.1.1 - 2, L.1.2), L.2) : Px Lks) = .ok L' := k6
    cases k6'
    have e1 : L.1.1 - 2 + 1 = L.1.1 - 1 := by omega
    have t1 := k2 1 (by omega)
    have t0 := k2 0 (by omega)
    have t1' : (L.1.2 (L.1.1 - 1)).1 = [6, k] := by rw [← e1]; exact t1
    exact sim_c1 hF h hE hA fm rl cg lg h0 (by omega) t1' t0 pt hid
  · exact sim_c2 h hE hU fm (by omega) r1 (k2 0 (by omega)) pt hid (gives1 k6)
  · have e1 : L.1.1 - 2 + 1 = L.1.1 - 1 := by omega
    have t1 := k2 1 (by omega)
    have t0 := k2 0 (by omega)
    have t1' : (L.1.2 (L.1.1 - 1)).1 = [6, k] := by rw [← e1]; exact t1
    exact sim_c3 hF h hE hC fm (by omega) t1' t0 pt hid ptb hidb ptc hidc (gives1 k6)
  · have e1 : L.1.1 - 2 + 1 = L.1.1 - 1 := by omega
    have t1 := k2 1 (by omega)
    have t0 := k2 0 (by omega)
    have t1' : (L.1.2 (L.1.1 - 1)).1 = [3] := by rw [← e1]; exact t1
    obtain ⟨L1, p1, p2⟩ := px_ok (show (lPush ([6, kb], 0, false) ((L.1.1 - 2, L.1.2), L.2) >>= aGives [([6, kc], 0, false)]) = .ok L' from k6)
    exact sim_c4 hF h hE hC fm (by omega) t1' t0 pt hid ptb hidb ptc hidc p1 (gives1 p2)
  · exact sim_c5 hF h hE hA hU fm rl cg lg h0 (by omega) (k2 0 (by omega)) (gives1 k6)
end
