/-! THE CLASS'S JOURNAL: places asked for. cn: the class's own node of a place, ws: whether it was there -/
def ckA (s : Nat) (a : Int64) : Int64 := if s = 2 then 0 else a
def ckM (s : Nat) (a : Int64) (k : Nat) : Nat := if s = 1 then 0 else if s = 2 then N a else k / 256
def ckS (s k : Nat) : Nat := if s = 3 then k % 256 else 0
def KyOk (s : Nat) (a : Int64) (k : Nat) : Prop := (s = 1 ∧ k = 0) ∨ (s = 2 ∧ k = 0 ∧ N a < 65536) ∨ (s = 3 ∧ k < 2 ^ 24)
theorem KyOk.b {s : Nat} {a : Int64} {k : Nat} (h : KyOk s a k) : ckM s a k < 2 ^ 31 ∧ ckS s k < 2 ^ 31 ∧ s < 4 := by
  unfold ckM ckS
  rcases h with ⟨e, f⟩ | ⟨e, f, h⟩ | ⟨e, h⟩ <;> subst e
  · simp
  · simp; omega
  · simp; omega
theorem KyOk.inj {s s' : Nat} {a a' : Int64} {k k' : Nat} (h : KyOk s a k) (h' : KyOk s' a' k') (e1 : s = s') (e2 : ckA s a = ckA s' a') (e3 : ckM s a k = ckM s' a' k') (e4 : ckS s k = ckS s' k') : a = a' ∧ k = k' := by
  subst e1
  unfold ckA at e2
  unfold ckM at e3
  unfold ckS at e4
  rcases h with ⟨e, f⟩ | ⟨e, f, h⟩ | ⟨e, h⟩ <;> subst e
  · rcases h' with ⟨e, f'⟩ | ⟨e, _⟩ | ⟨e, _⟩
    · simp at e2; exact ⟨e2, by omega⟩
    · omega
    · omega
  · rcases h' with ⟨e, f'⟩ | ⟨e, f', _⟩ | ⟨e, _⟩
    · omega
    · simp at e3; exact ⟨N_inj e3, by omega⟩
    · omega
  · rcases h' with ⟨e, f'⟩ | ⟨e, _⟩ | ⟨e, _⟩
    · omega
    · omega
    · simp at e2 e3 e4; exact ⟨e2, by omega⟩
def CJe (z : St) (e : Nat) (x : Ask) (c : Nat) (w : Bool) : Prop := KyOk x.1 x.2.1 x.2.2.1 ∧ z.1 105 e = nI x.1 ∧ (z.2.1 106 e = ckA x.1 x.2.1 ∧ z.1 107 e = nI (ckM x.1 x.2.1 x.2.2.1) ∧ z.1 108 e = nI (ckS x.1 x.2.2.1)) ∧ z.1 109 e = bI (if x.1 = 2 then true else w) ∧ z.1 110 e = bI (if x.1 = 2 then true else x.2.2.2.2.1) ∧ (x.1 = 1 → z.2.1 111 e = x.2.2.2.1 ∧ (w = true → x.2.2.2.2.1 = true)) ∧ (x.1 = 3 → x.2.2.2.2.1 = true → z.1 112 e = nI c)
/-- places asked for differ -/
def Dst (na : Nat) (ak : Nat → Ask) : Prop := ∀ i j, i < na → j < na → (ak i).1 = (ak j).1 → (ak i).2.1 = (ak j).2.1 → (ak i).2.2.1 = (ak j).2.2.1 → i = j
theorem Dst.cg {na : Nat} {ak ak' : Nat → Ask} (h : Dst na ak) (e : ∀ i, i < na → (ak' i).1 = (ak i).1 ∧ (ak' i).2.1 = (ak i).2.1 ∧ (ak' i).2.2.1 = (ak i).2.2.1) : Dst na ak' := fun i j hi hj a b c => by
  obtain ⟨x1, x2, x3⟩ := e i hi
  obtain ⟨y1, y2, y3⟩ := e j hj
  exact h i j hi hj (by rw [← x1, ← y1]; exact a) (by rw [← x2, ← y2]; exact b) (by rw [← x3, ← y3]; exact c)
theorem Dst.up {na j : Nat} {ak : Nat → Ask} {x : Ask} (h : Dst na ak) (h1 : x.1 = (ak j).1) (h2 : x.2.1 = (ak j).2.1) (h3 : x.2.2.1 = (ak j).2.2.1) : Dst na (upA ak j x) := h.cg (fun i _ => by
  by_cases q : i = j
  · subst q; simp [upA]; exact ⟨h1, h2, h3⟩
  · simp [upA, q])
theorem Dst.new {na : Nat} {ak : Nat → Ask} {x : Ask} (h : Dst na ak) (hd : ∀ i, i < na → ¬ ((ak i).1 = x.1 ∧ (ak i).2.1 = x.2.1 ∧ (ak i).2.2.1 = x.2.2.1)) : Dst (na + 1) (upA ak na x) := fun i j hi hj a b c => by
  by_cases q : i = na
  · by_cases w : j = na
    · omega
    · simp [upA, q, w] at a b c
      exact absurd ⟨a.symm, b.symm, c.symm⟩ (hd j (by omega))
  · by_cases w : j = na
    · simp [upA, q, w] at a b c
      exact absurd ⟨a, b, c⟩ (hd i (by omega))
    · simp [upA, q, w] at a b c
      exact h i j (by omega) (by omega) a b c
theorem fd_no {p : Nat → Bool} : ∀ r i, fd p r i = none → ∀ j, i ≤ j → j < i + r → p j = false
  | 0, i, _, j, a, b => by omega
  | r + 1, i, h, j, a, b => by
    rw [fd_1] at h
    by_cases q : p i = true
    · rw [if_pos q] at h; exact absurd h (by simp)
    · rw [if_neg q] at h
      by_cases w : j = i
      · subst w; simpa using q
      · exact fd_no r (i + 1) h j (by omega) (by omega)
theorem fdK_no {na : Nat} {ak : Nat → Ask} {s k : Nat} {a : Int64} (h : fdK na ak s a k na 0 = none) : ∀ i, i < na → ¬ ((ak i).1 = s ∧ (ak i).2.1 = a ∧ (ak i).2.2.1 = k) := fun i hi q => by
  have := fd_no na 0 h i (by omega) (by omega)
  simp [q.1, q.2.1, q.2.2] at this
def CJ (z : St) (na : Nat) (ak : Nat → Ask) (cn : Nat → Nat) (ws : Nat → Int64 → Nat → Bool) : Prop := (z.1 104 7 = nI na ∧ Dst na ak) ∧ na ≤ 24 ∧ ∀ e, e < na → CJe z e (ak e) (cn e) (ws (ak e).1 (ak e).2.1 (ak e).2.2.1)
/-- what asking leaves alone -/
def FrJ (z z' : St) : Prop := z'.2.2 = z.2.2 ∧ ∀ k, ¬ (88 ≤ k ∧ k ≤ 92) → ¬ (104 ≤ k ∧ k ≤ 112) → z'.1 k = z.1 k ∧ z'.2.1 k = z.2.1 k
theorem FrJ.rfl' {z : St} : FrJ z z := ⟨rfl, fun _ _ _ => ⟨rfl, rfl⟩⟩
theorem FrJ.trans {z z' z'' : St} (h : FrJ z z') (g : FrJ z' z'') : FrJ z z'' := ⟨g.1.trans h.1, fun k a b => ⟨(g.2 k a b).1.trans (h.2 k a b).1, (g.2 k a b).2.trans (h.2 k a b).2⟩⟩
theorem FrJ.si {z : St} {k j : Nat} {v : Int32} (hk : 104 ≤ k ∧ k ≤ 112) : FrJ z (si z k j v) := ⟨rfl, fun i _ b => ⟨by funext x; simp [si_1, show i ≠ k by omega], rfl⟩⟩
theorem FrJ.sl {z : St} {k j : Nat} {v : Int64} (hk : 104 ≤ k ∧ k ≤ 112) : FrJ z (sl z k j v) := ⟨rfl, fun i _ b => ⟨rfl, by funext x; simp [sl_2, show i ≠ k by omega]⟩⟩
theorem FrJ.hp {z z' : St} (h : Fr 88 92 z z') : FrJ z z' := ⟨h.1, fun k a _ => h.2 k a⟩
section
variable {F n : Nat} {sh : Nat → Nat × Nat} {z z' : St} {nc nr na : Nat} {ac : Nat → Int64 × Int64 × Int64} {so : Nat → Option Rsc} {ak : Nat → Ask} {cn : Nat → Nat} {ws : Nat → Int64 → Nat → Bool}
theorem CJ.of (h : CJ z na ak cn ws) (e : ∀ k, 104 ≤ k → k ≤ 112 → z'.1 k = z.1 k ∧ z'.2.1 k = z.2.1 k) : CJ z' na ak cn ws := by
  obtain ⟨a1, a2, a3⟩ := h
  refine ⟨⟨by rw [(e 104 (by omega) (by omega)).1]; exact a1.1, a1.2⟩, a2, fun i hi => ?_⟩
  unfold CJe
  rw [(e 105 (by omega) (by omega)).1, (e 106 (by omega) (by omega)).2, (e 107 (by omega) (by omega)).1, (e 108 (by omega) (by omega)).1, (e 109 (by omega) (by omega)).1, (e 110 (by omega) (by omega)).1, (e 111 (by omega) (by omega)).2, (e 112 (by omega) (by omega)).1]
  exact a3 i hi
theorem CJ.new (h : CJ z na ak cn ws) (hn : na < 24) {x : Ask} {c : Nat} (hd : ∀ i, i < na → ¬ ((ak i).1 = x.1 ∧ (ak i).2.1 = x.2.1 ∧ (ak i).2.2.1 = x.2.2.1)) (e1 : z'.1 104 7 = nI (na + 1)) (e2 : ∀ k j, 105 ≤ k → k ≤ 112 → j ≠ na → z'.1 k j = z.1 k j ∧ z'.2.1 k j = z.2.1 k j) (hx : CJe z' na x c (ws x.1 x.2.1 x.2.2.1)) : CJ z' (na + 1) (upA ak na x) (fun e => if e = na then c else cn e) ws := by
  refine ⟨⟨e1, h.1.2.new hd⟩, by omega, fun i hi => ?_⟩
  by_cases q : i = na
  · subst q
    simp [upA]
    exact hx
  · simp [upA, q]
    unfold CJe
    rw [(e2 105 i (by omega) (by omega) q).1, (e2 106 i (by omega) (by omega) q).2, (e2 107 i (by omega) (by omega) q).1, (e2 108 i (by omega) (by omega) q).1, (e2 109 i (by omega) (by omega) q).1, (e2 110 i (by omega) (by omega) q).1, (e2 111 i (by omega) (by omega) q).2, (e2 112 i (by omega) (by omega) q).1]
    exact h.2.2 i (by omega)
theorem cask_L (hL : Lay sh n z) (h : CJ z na ak cn ws) {s k : Nat} {a : Int64} (hk : KyOk s a k) : ∀ r p f, p + r = na → r < f → (∀ j, fdK na ak s a k r p = some j → fn_X2_ask_L3 F sh n 104 (nI s) (ckA s a) (nI (ckM s a k)) (nI (ckS s k)) f z (nI p) = some (z, nI j)) ∧ (fdK na ak s a k r p = none → ∃ f', fn_X2_ask_L3 F sh n 104 (nI s) (ckA s a) (nI (ckM s a k)) (nI (ckS s k)) f z (nI p) = fn_X2_ask_L3 F sh n 104 (nI s) (ckA s a) (nI (ckM s a k)) (nI (ckS s k)) (f' + 1) z (nI na)) := by
  obtain ⟨⟨a1, _⟩, a2, a3⟩ := h
  obtain ⟨k1, k2, k3⟩ := hk.b
  intro r
  induction r with
  | zero =>
    intro p f e hf
    obtain ⟨f', rfl⟩ : ∃ q, f = q + 1 := ⟨f - 1, by omega⟩
    refine ⟨fun j hj => absurd hj (by simp [fdK, fd]), fun _ => ⟨f', by rw [show p = na by omega]⟩⟩
  | succ r ih =>
    intro p f e hf
    obtain ⟨f', rfl⟩ : ∃ q, f = q + 1 := ⟨f - 1, by omega⟩
    have ng : ¬ nI na ≤ nI p := fun q => by have := (nI_leI (by omega) (by omega)).mp q; omega
    obtain ⟨y0, y1, ⟨y2, y3, y4⟩, _⟩ := a3 p (by omega)
    obtain ⟨b1, b2, b3⟩ := y0.b
    obtain ⟨go1, go2⟩ := ih (p + 1) f' (by omega) (by omega)
    have key : ∀ b : Bool, (decide ((ak p).1 = s) && (decide ((ak p).2.1 = a) && decide ((ak p).2.2.1 = k))) = b → fdK na ak s a k (r + 1) p = if b then some p else fdK na ak s a k r (p + 1) := fun b hb => by
      show (if (decide ((ak p).1 = s) && (decide ((ak p).2.1 = a) && decide ((ak p).2.2.1 = k))) then some p else fdK na ak s a k r (p + 1)) = _
      rw [hb]
    have eB : fn_X2_ask_B62 F sh n (nI p) (fun z9 q6 => fn_X2_ask_L3 F sh n 104 (nI s) (ckA s a) (nI (ckM s a k)) (nI (ckS s k)) f' z9 q6) z = fn_X2_ask_L3 F sh n 104 (nI s) (ckA s a) (nI (ckM s a k)) (nI (ckS s k)) f' z (nI (p + 1)) := by
      show fn_X2_ask_L3 F sh n 104 (nI s) (ckA s a) (nI (ckM s a k)) (nI (ckS s k)) f' z (nI p + 1) = _
      rw [nI_1]
    have ok : ∀ c w, 105 ≤ c → c ≤ 112 → shF c = (w, 24) → okA sh n c w (nI p) = true := fun c w c1 c2 ee => by rw [lay_a hL c w 24 (by omega) ee]; exact okI_nI (by omega) (by omega)
    have cp : (nI p).toNatClampNeg = p := nI_clamp (by omega)
    have w : fn_X2_ask_L3 F sh n 104 (nI s) (ckA s a) (nI (ckM s a k)) (nI (ckS s k)) (f' + 1) z (nI p) = if (decide ((ak p).1 = s) && (decide ((ak p).2.1 = a) && decide ((ak p).2.2.1 = k))) then some (z, nI p) else fn_X2_ask_L3 F sh n 104 (nI s) (ckA s a) (nI (ckM s a k)) (nI (ckS s k)) f' z (nI (p + 1)) := by
      conv => lhs; unfold fn_X2_ask_L3
      rw [(b_jour hL).1, grd_true, a1, if_neg ng, hL.2.2 104 2 105 rfl, lnk_s, ok 105 101 (by omega) (by omega) rfl, grd_true, cp, y1, eB, hL.2.2 104 3 106 rfl, lnk_s, ok 106 102 (by omega) (by omega) rfl, grd_true, y2, hL.2.2 104 4 107 rfl, lnk_s, ok 107 101 (by omega) (by omega) rfl, grd_true, y3, hL.2.2 104 5 108 rfl, lnk_s, ok 108 101 (by omega) (by omega) rfl, grd_true, y4]
      by_cases x : (ak p).1 = s ∧ (ak p).2.1 = a ∧ (ak p).2.2.1 = k
      · obtain ⟨x1, x2, x3⟩ := x
        rw [x1, x2, x3, if_pos rfl, if_pos rfl, if_pos rfl, if_pos rfl, if_pos (by simp)]
      · have nx : ¬ (decide ((ak p).1 = s) && (decide ((ak p).2.1 = a) && decide ((ak p).2.2.1 = k))) = true := by simp; intro q1 q2 q3; exact x ⟨q1, q2, q3⟩
        rw [if_neg nx]
        by_cases x1 : (ak p).1 = s
        · rw [if_pos (by rw [x1])]
          by_cases x2 : ckA (ak p).1 (ak p).2.1 = ckA s a
          · rw [if_pos x2]
            by_cases x3 : ckM (ak p).1 (ak p).2.1 (ak p).2.2.1 = ckM s a k
            · rw [if_pos (by rw [x3])]
              by_cases x4 : ckS (ak p).1 (ak p).2.2.1 = ckS s k
              · obtain ⟨q1, q2⟩ := y0.inj hk x1 x2 x3 x4
                exact absurd ⟨x1, q1, q2⟩ x
              · rw [if_neg (fun q => x4 ((nI_ij b2 k2).mp q))]
            · rw [if_neg (fun q => x3 ((nI_ij b1 k1).mp q))]
          · rw [if_neg x2]
        · rw [if_neg (fun q => x1 ((nI_ij (by omega) (by omega)).mp q))]
    rw [w]
    generalize hb' : (decide ((ak p).1 = s) && (decide ((ak p).2.1 = a) && decide ((ak p).2.2.1 = k))) = b at *
    rw [key b rfl]
    cases b with
    | true => exact ⟨fun j hj => by simp at hj; subst hj; simp, fun q => absurd q (by simp)⟩
    | false => simp; exact ⟨go1, go2⟩
/-- already asked for -/
theorem cask_f (hF : 300 ≤ F) (hL : Lay sh n z) (h : CJ z na ak cn ws) {s k : Nat} {a : Int64} (hk : KyOk s a k) {j : Nat} (hj : fdK na ak s a k na 0 = some j) : fn_X2_ask F sh n z 104 (nI s) (ckA s a) (nI (ckM s a k)) (nI (ckS s k)) = some (z, nI j) := (cask_L hL h hk na 0 F (by omega) (by have := h.2.1; omega)).1 j hj
/-- one too many -/
theorem cask_n (hF : 300 ≤ F) (hL : Lay sh n z) (h : CJ z na ak cn ws) {s k : Nat} {a : Int64} (hk : KyOk s a k) (hj : fdK na ak s a k na 0 = none) (hn : na = 24) : fn_X2_ask F sh n z 104 (nI s) (ckA s a) (nI (ckM s a k)) (nI (ckS s k)) = some (z, -1) := by
  obtain ⟨f', e⟩ := (cask_L (F := F) hL h hk na 0 F (by omega) (by have := h.2.1; omega)).2 hj
  unfold fn_X2_ask
  rw [show (0 : Int32) = nI 0 from rfl, e]
  unfold fn_X2_ask_L3
  subst hn
  rw [(b_jour hL).1, grd_true, h.1.1, if_pos ((nI_leI (by omega) (by omega)).mpr (Nat.le_refl _)), if_neg (by decide)]
theorem si_oj {z : St} {k j k' j' : Nat} {v : Int32} (h : j' ≠ j) : (si z k j v).1 k' j' = z.1 k' j' := by
  simp [si_1, h]
  intro e; rw [e]
theorem sl_oj {z : St} {k j k' j' : Nat} {v : Int64} (h : j' ≠ j) : (sl z k j v).2.1 k' j' = z.2.1 k' j' := by
  simp [sl_2, h]
  intro e; rw [e]
theorem si_ok {z : St} {k j k' : Nat} {v : Int32} (h : k' ≠ k) : (si z k j v).1 k' = z.1 k' := by
  funext i; simp [si_1, h]
theorem sl_ok {z : St} {k j k' : Nat} {v : Int64} (h : k' ≠ k) : (sl z k j v).2.1 k' = z.2.1 k' := by
  funext i; simp [sl_2, h]
def jz (z : St) (na : Nat) (s : Nat) (a : Int64) (k : Nat) : St := si (sl (si (si (sl (si (si z 104 7 (nI (na + 1))) 105 na (nI s)) 106 na (ckA s a)) 107 na (nI (ckM s a k))) 108 na (nI (ckS s k))) 111 na 0) 112 na 0
theorem jz_fr {s k : Nat} {a : Int64} : FrJ z (jz z na s a k) := (((((FrJ.si (by omega)).trans (FrJ.si (by omega))).trans (FrJ.sl (by omega))).trans (FrJ.si (by omega))).trans (FrJ.si (by omega))).trans ((FrJ.sl (by omega)).trans (FrJ.si (by omega)))
theorem jz_o {s k : Nat} {a : Int64} : (jz z na s a k).1 104 7 = nI (na + 1) ∧ (∀ i j, 105 ≤ i → i ≤ 112 → j ≠ na → (jz z na s a k).1 i j = z.1 i j ∧ (jz z na s a k).2.1 i j = z.2.1 i j) ∧ (jz z na s a k).1 105 na = nI s ∧ (jz z na s a k).2.1 106 na = ckA s a ∧ (jz z na s a k).1 107 na = nI (ckM s a k) ∧ (jz z na s a k).1 108 na = nI (ckS s k) := by
  refine ⟨by simp [jz, si_1, sl_1], fun i j i1 i2 hj => ⟨by unfold jz; rw [si_oj hj, sl_1, si_oj hj, si_oj hj, sl_1, si_oj hj, si_ok (by omega)], by unfold jz; rw [si_2, sl_oj hj, si_2, si_2, sl_oj hj, si_2, si_2]⟩, by simp [jz, si_1, sl_1], by simp [jz, si_2, sl_2], by simp [jz, si_1, sl_1], by simp [jz, si_1, sl_1]⟩
end
