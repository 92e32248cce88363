/-! BOTH MACHINES SIDE BY SIDE: structures (21, 22), rows of values (52) -/
section
variable {fr : Nat → Fm} {cs cl : Nat → Nat → Nat} {nf : Nat} {phi phi' : Nat → Nat} {Rn Rn' : Nat → Option Nat}
/-- one is taken, values are given -/
theorem SRel.many (h : SRel phi Rn (Vs fr cs cl nf)) (n0 : 0 < nf) {a c : Nat} {sl : Nat → Sl} {w : Nat → Nat} (ha : a ≤ (fr (nf - 1)).2.2.1.1) (hs : ∀ i, i < c → (sl i).2.1 = 0 ∧ w i = phi (sl i).1) : SRel phi Rn (Vs (setF fr (nf - 1) (setN (setH (fr (nf - 1)) a) c sl)) (rtC cs (nf - 1) a c w) cl nf) := by
  refine h.relay (fun x d k => (x, d, k)) (0, nf, 0) (fun x d k t v q => ?_)
  rcases Vs_t (cs := cs) (cl := cl) (fun d k hd => ⟨by simp [rtC, hd], rfl⟩) q with ⟨q1, q2⟩ | ⟨q1, q2, q3⟩
  · exact ⟨h.1 _ _ _ _ _ q2, fun r => Or.inl ⟨x, d, k, t, q2, r, rfl⟩⟩
  · subst q1
    rcases q3 with ⟨a1, a2, a3, a4⟩ | ⟨a1, a2, a3⟩
    · subst a1
      have a2' : k < a + c := a2
      have a3' : t = if k < a then (fr (nf - 1)).2.2.1.2 k else sl (k - a) := a3
      by_cases kl : k < a
      · rw [if_pos kl] at a3'
        have e2 : v = cs (nf - 1) k := by rw [a4]; unfold rtC; rw [if_neg (by omega)]
        have V0 : Vs fr cs cl nf 0 (nf - 1) k = some (t, v) := by rw [Vs_0 q2 (by omega), a3', e2]
        exact ⟨h.1 _ _ _ _ _ V0, fun r => Or.inl ⟨0, nf - 1, k, t, V0, r, rfl⟩⟩
      · rw [if_neg kl] at a3'
        obtain ⟨s1, s2⟩ := hs (k - a) (by omega)
        have e2 : v = w (k - a) := by rw [a4]; unfold rtC; rw [if_pos ⟨rfl, by omega, by omega⟩]
        rw [a3', e2]
        exact ⟨⟨fun _ => s2, fun z => absurd s1 z⟩, fun z => absurd s1 z⟩
    · subst a1
      have V1 : Vs fr cs cl nf 1 (nf - 1) k = some (t, v) := by rw [Vs_1 q2 a2, a3]
      exact ⟨h.1 _ _ _ _ _ V1, fun r => Or.inl ⟨1, nf - 1, k, t, V1, r, rfl⟩⟩
end
section
variable {U : Md} {ls : List Ty} {x : Fm} {L L' : Lks}
theorem gives_ok : ∀ {ss : List SS} {L M : Lks}, aGives ss L = .ok M → (ss ≠ [] → L.1.1 + ss.length ≤ 64) ∧ M.1.1 = L.1.1 + ss.length ∧ M.2 = L.2 ∧ (∀ k, k < L.1.1 → M.1.2 k = L.1.2 k) ∧ ∀ i (hi : i < ss.length), M.1.2 (L.1.1 + i) = ss[i]
  | [], L, M, h => by
    have : M = L := by
      unfold aGives at h
      cases h; rfl
    subst this
    exact ⟨fun q => absurd rfl q, rfl, rfl, fun _ _ => rfl, fun i hi => absurd hi (by simp)⟩
  | s :: ss, L, M, h => by
    unfold aGives at h
    obtain ⟨N1, h1, h2⟩ := px_ok h
    obtain ⟨a1, a2⟩ := push_ok h1
    subst a2
    obtain ⟨b0, b1, b2, b3, b4⟩ := gives_ok h2
    simp only at b0 b1 b2 b3 b4
    refine ⟨fun _ => ?_, by rw [b1, List.length_cons]; omega, b2, fun k hk => ?_, fun i hi => ?_⟩
    · by_cases q : ss = []
      · subst q; simp; omega
      · have := b0 q; rw [List.length_cons]; omega
    · rw [b3 k (by omega), if_neg (by omega)]
    · cases i with
      | zero => rw [Nat.add_zero, b3 L.1.1 (by omega), if_pos rfl]; rfl
      | succ i =>
        have := b4 i (by rw [List.length_cons] at hi; omega)
        rw [List.getElem_cons_succ, ← this, show L.1.1 + (i + 1) = L.1.1 + 1 + i by omega]
theorem FM.many (h : FM U ls x L) {ss : List SS} {sl : Nat → Sl} {M : Lks} (hg : aGives ss L = .ok M) (hs : ∀ i (hi : i < ss.length), SMt U.2.2.2.1 (sl i) ss[i] ∧ STy U.1.2.2 ss[i].1) : FM U ls (setN x ss.length sl) M := by
  obtain ⟨h1, h2, h3, h4, h5⟩ := h
  obtain ⟨b0, b1, b2, b3, b4⟩ := gives_ok hg
  refine ⟨?_, ?_, fun k hk => ?_, by rw [b2]; exact h4, h5⟩
  · show x.2.2.1.1 + ss.length = M.1.1; omega
  · by_cases q : ss = []
    · rw [b1, q]; simpa using h2
    · have := b0 q; omega
  · show SMt U.2.2.2.1 (if k < x.2.2.1.1 then x.2.2.1.2 k else sl (k - x.2.2.1.1)) (M.1.2 k) ∧ _
    by_cases c : k < x.2.2.1.1
    · rw [if_pos c, b3 k (by omega)]; exact h3 k (by omega)
    · rw [if_neg c]
      have := b4 (k - L.1.1) (by omega)
      rw [show L.1.1 + (k - L.1.1) = k by omega] at this
      rw [this, h1]
      exact hs (k - L.1.1) (by omega)
end
section
variable {E : Ev} {F n : Nat} {sh : Nat → Nat × Nat} {pk : Nat → Nat} {kt : Nat} {sl0 : Int32} {lim e : Nat} {zr zc zr' zc' : St} {H : Hp} {m : Nat} {ty : Nat → Nat} {fr : Nat → Fm} {nf na : Nat} {ak : Nat → Ask} {g g' : Nat} {Hc : Hp} {mc : Nat} {phi : Nat → Nat} {Rn : Nat → Option Nat} {cs cl : Nat → Nat → Nat} {cn : Nat → Nat} {ws : Nat → Int64 → Nat → Bool} {u : Nat} {U : Md} {ls : List Ty} {L L' : Lks} {R C : Option (St × Unit)}
theorem map_vls {c : Nat} {f : Nat → Nat} {l : List Nat} (hl : l.length = c) (h : ∀ i (hi : i < l.length), f ((fr (nf - 1)).2.2.1.2 ((fr (nf - 1)).2.2.1.1 - c + i)).1 = l[i]) : (vls fr nf c).map f = l := by
  apply List.ext_getElem
  · rw [List.length_map, vls_len, hl]
  · intro i h1 h2
    rw [List.getElem_map, vls_get, h i h2]
/-- 21 -/
theorem sim_21 (hF : 300 ≤ F) (h : Sm E sh n pk kt sl0 lim 1 zr zc H m ty fr nf na ak g Hc mc phi Rn cs cl cn ws) (hE : EvOk E) (hA : EvA E) (hU : UOk E u U) (fm : FM U ls (fr (nf - 1)) L) {a ku : Nat} {M : Lks} (ha : a < U.1.2.1) (h1 : aTakes (fdsOf U a).reverse L = .ok M) (hp : lPush ([6, a], 0, false) M = .ok L') (hu : zr.2.2 337 48 = some ku) (ho : okO sh n ku 16 = true) (hfd : fn_X16_fieldsOf F sh n zr ku (nI a) = some (zr, nI (fdsOf U a).length)) (hid : fn_X16_identity F sh n zr ku (nI a) = some (zr, nI (U.2.2.2.1 a))) : Out E sh n pk kt sl0 lim zr zc fr nf na ak g ws U ls L' (fun i => i = (fr (nf - 1)).1.2.2) (fn_X18_pack F sh n zr 337 (nI a)) (fn_X4_gather F sh n zc 87 6 (nI (fdsOf U a).length)) := by
  obtain ⟨rr1, rr2⟩ := h.rooms
  have hh := fm.1
  have h64 := h.h64
  obtain ⟨u1, u2, u3, u4, u5, u6, u7⟩ := hU.2.2.1 a ha
  obtain ⟨t1, t2, t3⟩ := takes_rev h1
  subst t3
  have pf : ∀ i, i < (fdsOf U a).length → PT U.1.2.2 (L.1.2 (L.1.1 - (fdsOf U a).length + i)).1 := fun i hi => by rw [t2 i hi]; exact u4 _ (List.getElem_mem hi)
  obtain ⟨v1, v2, v3, v4, v5, v6⟩ := h.vals hA fm t1 pf
  have pt : PT U.1.2.2 [6, a] := PT_s (by have := hU.2.2.2.2.2.1; omega)
  have mt : (vls fr nf (fdsOf U a).length).map ty = (fdsOf U a).map (sT U.2.2.2.1) := map_vls (by simp) (fun i hi => by
    rw [List.length_map] at hi
    rw [(v2 i hi).2.2, t2 i hi, List.getElem_map])
  have lt : LTm E (256 + U.2.2.2.1 a) (6, 0, lN (U.2.2.2.1 a), vls fr nf (fdsOf U a).length) ((vls fr nf (fdsOf U a).length).map ty) := by
    refine .inr (.inr (.inr (.inr (.inr (.inr (.inl ⟨by omega, by omega, rfl, rfl, by rw [Nat.add_sub_cancel_left], ?_, ?_⟩))))))
    · rw [mt, Nat.add_sub_cancel_left, u3]
    · rw [mt, List.length_map]; omega
  obtain ⟨z1, q1, q2, q3⟩ := h.2.1.pack (F := F) hF hu ho hfd hid (by omega) v1 vls_len u6 u7 (by omega) (fun i hi => (vls_get hi).symm) h64 (by omega) (256 + U.2.2.2.1 a)
  have cw := h.2.2.1.gather (F := F) hF (ws := (vls fr nf (fdsOf U a).length).map phi) (k := 6) (a := (fr (nf - 1)).2.2.1.1 - (fdsOf U a).length) (.inl rfl) (by omega) v3 (by rw [List.length_map, vls_len]; omega) (by omega) v4 v5 v6 (m, 0, 256 + U.2.2.2.1 a, 0, false)
  rw [List.length_map, vls_len] at cw
  obtain ⟨z2, d1, d2, d3⟩ := cw
  exact Out.pack h hE fm t1 (fun i hi => (v2 i hi).1) (fun v hv => (v1.2.2.2.2 v hv).2.1) (.inl rfl) lt u5 (by omega) (by omega) (by omega) pt (sT_s (id := U.2.2.2.1) (a := a)).symm hp (Nat.le_refl _) q1 d1 q2 d2 q3 d3.d
/-- 52 -/
theorem sim_52 (hF : 300 ≤ F) (h : Sm E sh n pk kt sl0 lim 1 zr zc H m ty fr nf na ak g Hc mc phi Rn cs cl cn ws) (hE : EvOk E) (hA : EvA E) (hU : UOk E u U) (fm : FM U ls (fr (nf - 1)) L) {b : Nat} {T : Ty} {M : Lks} (hT : T ∈ elsOf U) (h1 : aTakes (List.replicate b T) L = .ok M) (hp : lPush (7 :: T, 0, false) M = .ok L') : Out E sh n pk kt sl0 lim zr zc fr nf na ak g ws U ls L' (fun i => i = (fr (nf - 1)).1.2.2) (fn_X18_onVector F sh n zr 337 52 (nI b)) (fn_X4_lineUp F sh n zc 87 52 (nI b)) := by
  obtain ⟨rr1, rr2⟩ := h.rooms
  have hh := fm.1
  have h64 := h.h64
  obtain ⟨e1, e2, e3⟩ := hU.2.1 T hT
  have h1' : aTakes (List.replicate b T).reverse L = .ok M := by rw [List.reverse_replicate]; exact h1
  obtain ⟨t1, t2, t3⟩ := takes_rev h1'
  have t2' : ∀ i, i < b → (L.1.2 (L.1.1 - b + i)).1 = T := fun i hi => by
    have := t2 i (by rw [List.length_replicate]; exact hi)
    rw [List.getElem_replicate, List.length_replicate] at this
    exact this
  rw [List.length_replicate] at t1 t3
  subst t3
  have l64 := (push_ok hp).1
  simp only at l64
  have tt := t2'
  obtain ⟨v1, v2, v3, v4, v5, v6⟩ := h.vals hA fm t1 (fun i hi => by rw [tt i hi]; exact e1)
  have lt : LTm E (2 ^ 32 + sT U.2.2.2.1 T) (7, 0, 0, vls fr nf b) ((vls fr nf b).map ty) := by
    refine .inr (.inr (.inr (.inr (.inr (.inr (.inr ⟨by omega, rfl, rfl, rfl, fun c hc => ?_, ?_⟩))))))
    · obtain ⟨v, w1, w2⟩ := List.mem_map.mp hc
      obtain ⟨i, i1, i2⟩ := vls_mem w1
      rw [← w2, i2, (v2 i i1).2.2, tt i i1, Nat.add_sub_cancel_left]
    · rw [List.length_map, vls_len]; omega
  have RV := h.2.1.v52 (F := F) hF v1 vls_len (by omega) (by omega) (fun i hi => (vls_get hi).symm) h64 (by omega) (by omega) (2 ^ 32 + sT U.2.2.2.1 T)
  have CV := h.2.2.1.v52 (F := F) hF (ws := (vls fr nf b).map phi) (a := (fr (nf - 1)).2.2.1.1 - b) (by omega) v3 (by rw [List.length_map, vls_len]; omega) (by omega) v4 v5 v6 (m, 0, 2 ^ 32 + sT U.2.2.2.1 T, 0, false)
  rw [List.length_map, vls_len] at CV
  by_cases c : g + b ≤ lim
  · obtain ⟨z1, q1, q2, q3⟩ := RV.1 c
    obtain ⟨z2, d1, d2, d3⟩ := CV.2 c
    exact Out.pack h hE fm t1 (fun i hi => (v2 i hi).1) (fun v hv => (v1.2.2.2.2 v hv).2.1) (.inr rfl) lt e2 (by omega) (by omega) (by omega) (PT_v e1) (sT_v e1).symm hp (by omega) q1 d1 q2 d2 q3 d3.d
  · obtain ⟨z1, q1, q2, q3⟩ := RV.2 (by omega)
    obtain ⟨z2, d1, d2, d3⟩ := CV.1 (by omega)
    exact Out.end 2 5 lim (.inr rfl) q1 d1 q2 d2 q3 d3.x
end
