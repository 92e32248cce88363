/-! THE REFERENCE'S MACHINE: the end, not, new trees, coins -/
/-- a heap to which new nodes may be added -/
def Nw (H : Hp) (m : Nat) : Prop := PU H ∧ (∀ i c, c ∈ kds H i → (H c).1 ≠ 0) ∧ ∀ i, m ≤ i → H i = (0, 0, 0, [])
section
variable {F n : Nat} {sh : Nat → Nat × Nat} {z z' : St} {H : Hp} {m : Nat} {fr : Nat → Fm} {nf na : Nat} {ak : Nat → Ask} {g lim : Nat}
theorem Nw.mk (h : Nw H m) {k : Nat} {x y : Int64} (hk : k ≠ 0) : Nw (upH H m (k, x, y, [])) (m + 1) ∧ Rt (upH H m (k, x, y, [])) m ∧ ∀ r, Rt H r → Rt (upH H m (k, x, y, [])) r := by
  obtain ⟨pu, cl, dd⟩ := h
  have e : ∀ v, kds (upH H m (k, x, y, [])) v = kds H v := fun v => by
    by_cases q : v = m
    · subst q; unfold kds; rw [upH_s, dd v (Nat.le_refl _)]
    · unfold kds; rw [upH_n q]
  have nm : ∀ v, m ∉ kds H v := fun v hv => cl v m hv (by rw [dd m (Nat.le_refl _)])
  refine ⟨⟨fun v w c hv hw => pu v w c (by rw [← e v]; exact hv) (by rw [← e w]; exact hw), fun i c hc => ?_, fun i hi => by rw [upH_n (by omega)]; exact dd i (by omega)⟩, fun v hv => nm v (by rw [← e v]; exact hv), fun r hr v hv => hr v (by rw [← e v]; exact hv)⟩
  rw [e i] at hc
  rw [upH_n (fun q => nm i (by rw [← q]; exact hc))]
  exact cl i c hc
theorem Nw.add (h : Nw H m) {v c : Nat} (hv : (H v).1 ≠ 0) (hc : (H c).1 ≠ 0) (hr : Rt H c) : Nw (upH H v (setC (H v) (kds H v ++ [c]))) m ∧ ∀ r, r ≠ c → Rt H r → Rt (upH H v (setC (H v) (kds H v ++ [c]))) r := by
  obtain ⟨pu, cl, dd⟩ := h
  have e : ∀ w, w ≠ v → kds (upH H v (setC (H v) (kds H v ++ [c]))) w = kds H w := fun w q => by unfold kds; rw [upH_n q]
  have e2 : kds (upH H v (setC (H v) (kds H v ++ [c]))) v = kds H v ++ [c] := by unfold kds; rw [upH_s]; rfl
  have al : ∀ i, (H i).1 ≠ 0 → ((upH H v (setC (H v) (kds H v ++ [c]))) i).1 ≠ 0 := fun i hi => by
    by_cases q : i = v
    · subst q; rw [upH_s]; exact hi
    · rw [upH_n q]; exact hi
  have old : ∀ w x, x ∈ kds (upH H v (setC (H v) (kds H v ++ [c]))) w → x ∈ kds H w ∨ (w = v ∧ x = c) := fun w x hx => by
    by_cases q : w = v
    · subst q; rw [e2] at hx
      rcases List.mem_append.mp hx with a | a
      · exact .inl a
      · exact .inr ⟨rfl, by simpa using a⟩
    · rw [e w q] at hx; exact .inl hx
  refine ⟨⟨fun u w x hu hw => ?_, fun i x hx => ?_, fun i hi => ?_⟩, fun r q hr' w hw => ?_⟩
  · rcases old u x hu with a | ⟨a, b⟩ <;> rcases old w x hw with a' | ⟨a', b'⟩
    · exact pu u w x a a'
    · exact absurd (b' ▸ a) (hr u)
    · exact absurd (b ▸ a') (hr w)
    · rw [a, a']
  · rcases old i x hx with a | ⟨_, b⟩
    · exact al x (cl i x a)
    · rw [b]; exact al c hc
  · rw [upH_n (fun q => hv (by rw [← q, dd i hi]))]; exact dd i hi
  · rcases old w r hw with a | ⟨_, b⟩
    · exact hr' w a
    · exact q b
/-- 45 -/
theorem RM.abort (h : RM sh n z H m fr nf na ak g lim) (h1 : 1 ≤ (fr (nf - 1)).2.2.1.1) (h0 : ((fr (nf - 1)).2.2.1.2 ((fr (nf - 1)).2.2.1.1 - 1)).2.1 = 0) (ha : (H ((fr (nf - 1)).2.2.1.2 ((fr (nf - 1)).2.2.1.1 - 1)).1).1 = 3) {r41 r36 : Int64} : ∃ z', fn_X18_one_B402 F sh n 45 337 r41 r36 z = some (z', ()) ∧ RE sh n z' 1 (H ((fr (nf - 1)).2.2.1.2 ((fr (nf - 1)).2.2.1.1 - 1)).1).2.2.1 g ∧ FrR z z' := by
  obtain ⟨z1, p1, p2, p3⟩ := h.takeL (F := F) h1 h0 ha
  obtain ⟨z2, q1, q2, q3⟩ := p2.fin (F := F) 1 (H ((fr (nf - 1)).2.2.1.2 ((fr (nf - 1)).2.2.1.1 - 1)).1).2.2.1
  refine ⟨z2, ?_, q2, p3.trans q3⟩
  unfold fn_X18_one_B402
  rw [if_pos rfl, p1, cal_s, show (1 : Int32) = nI 1 from rfl, q1, cal_s]
/-- it has ended well -/
def RS (sh : Nat → Nat × Nat) (n : Nat) (z : St) (H : Hp) (m na : Nat) (ak : Nat → Ask) (g : Nat) : Prop := RE sh n z 0 0 g ∧ HM z H m ∧ RAs z na ak
/-- 1, from the last frame -/
theorem RM.retE (h : RM sh n z H m fr nf na ak g lim) (h2 : nf = 1) {ku : Nat} (hu : z.2.2 337 48 = some ku) (ho : okO sh n ku 16 = true) (hg : fn_X16_many F sh n z ku (nI (fr (nf - 1)).1.2.1) 1 = some (z, nI (fr (nf - 1)).2.2.1.1)) : ∃ z', fn_X18_giveBack F sh n z 337 = some (z', ()) ∧ RS sh n z' H m na ak g ∧ FrR z z' := by
  obtain ⟨i1, i2, i3⟩ := h.i0
  obtain ⟨hL, hr, hM, hf, ha, g1, g2, g3, g4⟩ := h
  obtain ⟨t1, t2, t3⟩ := hf.top
  obtain ⟨a1, a2, a3, a4, a5, a6, a7⟩ := t1
  have key : ∀ k, k ≠ 337 → (sl (si (si z 337 36 (nI (nf - 1))) 337 27 (nI 0)) 337 28 0).1 k = z.1 k := fun k hk => by funext j; simp [si_1, sl_1, hk]
  have keyL : ∀ k, k ≠ 337 → (sl (si (si z 337 36 (nI (nf - 1))) 337 27 (nI 0)) 337 28 0).2.1 k = z.2.1 k := fun k hk => by funext j; simp [si_2, sl_2, hk]
  have k2 : ∀ j, j ≠ 36 → j ≠ 27 → (sl (si (si z 337 36 (nI (nf - 1))) 337 27 (nI 0)) 337 28 0).1 337 j = z.1 337 j := fun j hj hj2 => by simp [si_1, sl_1, hj, hj2]
  refine ⟨sl (si (si z 337 36 (nI (nf - 1))) 337 27 (nI 0)) 337 28 0, ?_, ⟨⟨hL.of rfl, by simp [si_1, sl_1], by simp [sl_2], by rw [k2 26 (by decide) (by decide)]; exact g1⟩, hM.fr (fun k a b => key k (by omega)) (fun k a b => keyL k (by omega)), ha.of (k2 29 (by decide) (by decide)) (fun k a b => ⟨key k (by omega), keyL k (by omega)⟩)⟩, ⟨rfl, fun k k1 _ => ⟨key k k1, keyL k k1⟩, fun j hj => ⟨k2 j (fun e => hj (by rw [e]; simp [mfl])) (fun e => hj (by rw [e]; simp [mfl])), by simp [sl_2, si_2, show j ≠ 28 from fun e => hj (by rw [e]; simp [mfl])]⟩⟩⟩
  have e2 : nI (bsm fr nf) - nI (bsm fr (nf - 1)) = nI (fr (nf - 1)).2.2.1.1 := by rw [pk_sub (by omega)]; congr 1; omega
  have s36 : (si z 337 36 (nI (nf - 1))).1 337 36 = 0 := by simp [si_1, h2]; rfl
  have s27 : (si z 337 36 (nI (nf - 1))).1 337 27 = -1 := by simp [si_1]; exact hr
  have hL1 : Lay sh n (si z 337 36 (nI (nf - 1))) := hL.of rfl
  unfold fn_X18_giveBack
  simp only [b_model hL, grd_true, hu, lnk_s, hf.1, i1, i2, i3, ho, a3, hg, cal_s, hf.2.2.2.1, a5, e2, ↓reduceIte]
  unfold fn_X18_giveBack_B44
  simp only [hf.1, i1, lt_t, s36, ↓reduceIte]
  unfold fn_X18_end
  simp only [b_model hL1, grd_true, lt_t, s27]
  rw [if_pos (by decide), cal_s]
  rfl
/-- 34 -/
theorem RM.not (h : RM sh n z H m fr nf na ak g lim) (h1 : 1 ≤ (fr (nf - 1)).2.2.1.1) (h64 : (fr (nf - 1)).2.2.1.1 ≤ 64) (h0 : ((fr (nf - 1)).2.2.1.2 ((fr (nf - 1)).2.2.1.1 - 1)).2.1 = 0) (ha : (H ((fr (nf - 1)).2.2.1.2 ((fr (nf - 1)).2.2.1.1 - 1)).1).1 = 1) (hm : m < 24576) : ∃ z1 z', fn_X18_take F sh n z 337 1 = some (z1, nI ((fr (nf - 1)).2.2.1.2 ((fr (nf - 1)).2.2.1.1 - 1)).1) ∧ z1.2.1 352 ((fr (nf - 1)).2.2.1.2 ((fr (nf - 1)).2.2.1.1 - 1)).1 = (H ((fr (nf - 1)).2.2.1.2 ((fr (nf - 1)).2.2.1.1 - 1)).1).2.2.1 ∧ fn_X18_make F sh n z1 337 1 0 (1 - (H ((fr (nf - 1)).2.2.1.2 ((fr (nf - 1)).2.2.1.1 - 1)).1).2.2.1) = some (z', ()) ∧ RM sh n z' (upH H m (1, 0, 1 - (H ((fr (nf - 1)).2.2.1.2 ((fr (nf - 1)).2.2.1.1 - 1)).1).2.2.1, [])) (m + 1) (setF fr (nf - 1) (pshV (setH (fr (nf - 1)) ((fr (nf - 1)).2.2.1.1 - 1)) (m, 0, 1, 0, false))) nf na ak g lim ∧ FrR z z' := by
  have hal : (H ((fr (nf - 1)).2.2.1.2 ((fr (nf - 1)).2.2.1.1 - 1)).1).1 ≠ 0 := by omega
  obtain ⟨z1, p1, p2, p3⟩ := h.takeK (F := F) h1 h0 hal
  rw [ha] at p1
  obtain ⟨z2, q1, q2, q3⟩ := p2.make (F := F) (k := 1) (x := 0) (y := 1 - (H ((fr (nf - 1)).2.2.1.2 ((fr (nf - 1)).2.2.1.1 - 1)).1).2.2.1) 1 (by omega) hm (by rw [setF_s, setH_T]; omega)
  rw [setF_s, setF_2] at q2
  exact ⟨z1, z2, p1, (p2.2.2.1.row hal).2.2.1, q1, q2, p3.trans q3⟩
/-- a coin is made -/
theorem RM.mkCoin (hF : 300 ≤ F) (h : RM sh n z H m fr nf na ak g lim) (w : Nw H m) (hm : m + 1 < 24576) (h64 : (fr (nf - 1)).2.2.1.1 < 64) (t : Nat) (x : Int64) : ∃ z', fn_X18_makeCoin F sh n z 337 x = some (z', ()) ∧ RM sh n z' (upH (upH H m (6, 0, 0, [m + 1])) (m + 1) (3, 0, x, [])) (m + 2) (setF fr (nf - 1) (pshV (fr (nf - 1)) (m, 0, t, 0, false))) nf na ak g lim ∧ FrR z z' := by
  have mk := makeM_t (F := F) (k := 6) (x := 0) (y := 0) h.1 h.2.2.1.1 (by omega) (by omega)
  obtain ⟨a1, a2⟩ := h.tree (mm_fr (m := m) (k := nI 6) (x := 0) (y := 0)) (mm_H h.2.2.1 (by omega) (by omega))
  obtain ⟨w1, w2, _⟩ := w.mk (k := 6) (x := 0) (y := 0) (by omega)
  have mk2 := makeM_t (F := F) (k := 3) (x := 0) (y := x) a1.1 a1.2.2.1.1 (by omega) (by omega)
  obtain ⟨b1, b2⟩ := a1.tree (mm_fr (m := m + 1) (k := nI 3) (x := 0) (y := x)) (mm_H a1.2.2.1 (by omega) (by omega))
  obtain ⟨v1, v2, v3⟩ := w1.mk (k := 3) (x := 0) (y := x) (by omega)
  have n1 : m ≠ m + 1 := by omega
  have mal : ((upH (upH H m (6, 0, 0, [])) (m + 1) (3, 0, x, [])) m).1 ≠ 0 := by rw [upH_n n1, upH_s]; simp
  have cal : ((upH (upH H m (6, 0, 0, [])) (m + 1) (3, 0, x, [])) (m + 1)).1 ≠ 0 := by rw [upH_s]; simp
  have km : kds (upH (upH H m (6, 0, 0, [])) (m + 1) (3, 0, x, [])) m = [] := by unfold kds; rw [upH_n n1, upH_s]
  have ad := tadd_t (F := F) hF b1.1 b1.2.2.1 mal cal (by rw [km]; simp)
  have hH := ad_H b1.2.2.1 mal cal v2 (by rw [km]; simp) (by rw [km]; simp) v1.1
  obtain ⟨c1, c2⟩ := b1.tree ad_fr hH
  have eH : upH (upH (upH H m (6, 0, 0, [])) (m + 1) (3, 0, x, [])) m (setC ((upH (upH H m (6, 0, 0, [])) (m + 1) (3, 0, x, [])) m) (kds (upH (upH H m (6, 0, 0, [])) (m + 1) (3, 0, x, [])) m ++ [m + 1])) = upH (upH H m (6, 0, 0, [m + 1])) (m + 1) (3, 0, x, []) := by
    funext i
    by_cases q : i = m
    · subst q
      rw [upH_s, km, upH_n n1, upH_s, upH_n n1, upH_s]; rfl
    · rw [upH_n q]
      by_cases q2 : i = m + 1
      · subst q2; rw [upH_s, upH_s]
      · rw [upH_n q2, upH_n q, upH_n q2, upH_n q]
  rw [eH] at c1
  obtain ⟨z', p1, p2, p3⟩ := c1.push (F := F) (m, 0, t, 0, false) h64
  rw [rB0 rfl] at p1
  refine ⟨z', ?_, p2, ((a2.trans b2).trans c2).trans p3⟩
  unfold fn_X18_makeCoin
  rw [show (6 : Int32) = nI 6 from rfl, show (3 : Int32) = nI 3 from rfl]
  simp only [b_model h.1, b_model a1.1, b_model b1.1, grd_true, lnk_s, mk, mk2, ad, cal_s]
  rw [show fn_X18_push F sh n _ 337 (nI m) 0 = some (z', ()) from p1, cal_s]
end
