/-! THE REFERENCE'S MACHINE: unpacking, steering, returns -/
section
variable {F n : Nat} {sh : Nat → Nat × Nat} {z z' : St} {H : Hp} {m : Nat} {fr : Nat → Fm} {nf na : Nat} {ak : Nat → Ask} {g lim : Nat}
/-- the same slots below the height -/
theorem RM.same (h : RM sh n z H m fr nf na ak g lim) (x : Fm) (e1 : x.1 = (fr (nf - 1)).1) (e2 : x.2.2.1.1 = (fr (nf - 1)).2.2.1.1) (e3 : ∀ k, k < x.2.2.1.1 → x.2.2.1.2 k = (fr (nf - 1)).2.2.1.2 k) (e4 : ∀ k s, x.2.1 k = some s → (fr (nf - 1)).2.1 k = some s) : RM sh n z H m (setF fr (nf - 1) x) nf na ak g lim := by
  obtain ⟨hL, hr, hM, hf, ha, h1, h2, h3, h4⟩ := h
  obtain ⟨t1, t2, t3⟩ := hf.top
  obtain ⟨a1, a2, a3, a4, a5, a6, a7⟩ := t1
  refine ⟨hL, hr, hM, hf.set x rfl (by omega) (by rw [hf.2.2.2.1, t2, e2]) (fun _ _ _ _ _ => rfl) ⟨by rw [e1]; exact a2, by rw [e1]; exact a3, by rw [e1]; exact a4, a5⟩ (fun _ _ => ⟨rfl, rfl⟩) (fun _ _ => ⟨rfl, rfl⟩) (fun k hk => by rw [e3 k hk]; exact a6 k (by omega)) (fun k s hk => a7 k s (e4 k s hk)), ha, h1, h2, h3, h4⟩
theorem HM.kill (h : HM z H m) {x : Nat} (hr : Rt H x) : HM z (upH H x (0, 0, 0, [])) m := by
  refine ⟨h.1, h.2.1, fun i q => ?_⟩
  have hi : i ≠ x := fun e => by subst e; rw [upH_s] at q; exact q rfl
  rw [upH_n hi] at q ⊢
  obtain ⟨a1, a2, a3, a4, a5⟩ := h.2.2 i q
  refine ⟨a1, a2, a3, a4, fun c hc => ?_⟩
  rw [kds, upH_n hi] at hc
  have ne : c ≠ x := fun e => hr i (by rw [← e]; exact hc)
  rw [upH_n ne]
  exact a5 c hc
theorem HM.next (h : HM z H m) {c : Nat} (hr : Rt H c) (v : Int32) : HM (si z 354 c v) H m := by
  refine ⟨by simp [si_1]; exact h.1, h.2.1, fun i q => ?_⟩
  obtain ⟨a1, a2, ⟨d1, d2, d3, d4⟩, a4, a5⟩ := h.2.2 i q
  refine ⟨a1, a2, ⟨by simp [si_1]; exact d1, d2, d3, ?_⟩, a4, a5⟩
  have : (si z 354 c v).1 353 i = z.1 353 i := by simp [si_1]
  rw [this]
  refine chm_of d4 (fun x hx => ?_)
  have : x ≠ c := fun e => hr i (e ▸ hx)
  simp [si_1, this]
theorem unpackL_t {x : Nat} {sl : Nat → Sl} {cs : List Nat} (hx : Rt H x) (hr : ∀ c, c ∈ cs → Rt (upH H x (0, 0, 0, [])) c ∧ c < 24576) (nd : cs.Nodup) (hs : ∀ (i : Nat) (hi : i < cs.length), (sl i).1 = cs[i] ∧ (sl i).2.1 = 0) (h64 : (fr (nf - 1)).2.2.1.1 + cs.length ≤ 64) : ∀ r j f z0, j + r = cs.length → r < f → chm z0 (hm1 (cs.drop j)) (cs.drop j) → RM sh n z0 (upH H x (0, 0, 0, [])) m (setF fr (nf - 1) (setN (fr (nf - 1)) j sl)) nf na ak g lim → ∃ z', fn_X18_unpack_L58 F sh n 337 f z0 (hm1 (cs.drop j)) = some (z', ()) ∧ RM sh n z' (upH H x (0, 0, 0, [])) m (setF fr (nf - 1) (setN (fr (nf - 1)) cs.length sl)) nf na ak g lim ∧ FrR z0 z' := by
  intro r
  induction r with
  | zero =>
    intro j f z0 e hf hc h
    obtain ⟨f', rfl⟩ : ∃ q, f = q + 1 := ⟨f - 1, by omega⟩
    refine ⟨z0, ?_, by rw [show cs.length = j by omega]; exact h, FrR.rfl'⟩
    unfold fn_X18_unpack_L58
    rw [List.drop_eq_nil_of_le (by omega), if_pos (show hm1 [] = -1 from rfl)]
  | succ r ih =>
    intro j f z0 e hf hc h
    obtain ⟨f', rfl⟩ : ∃ q, f = q + 1 := ⟨f - 1, by omega⟩
    have hj : j < cs.length := by omega
    have cm := List.getElem_mem hj
    obtain ⟨r1, r2⟩ := hr _ cm
    rw [drop_c hj] at hc ⊢
    obtain ⟨_, _, c3⟩ := hc
    have e3 := chm_hd c3
    have f1 : Fr 349 354 z0 (si z0 354 cs[j] (-1)) := Fr.rfl'.si (by omega)
    obtain ⟨m1, m2⟩ := h.tree f1 (h.2.2.1.next r1 (-1))
    obtain ⟨z1, p1, p2, p3⟩ := m1.push (F := F) (sl j) (by rw [setF_s]; simp only [setN]; omega)
    rw [rB0 (hs j hj).2, (hs j hj).1] at p1
    rw [setF_s, setF_2] at p2
    have p4 := p2.same (setN (fr (nf - 1)) (j + 1) sl) (by rw [setF_s]; rfl) (by rw [setF_s]; rfl) (fun k hk => by
      rw [setF_s]
      simp only [setN] at hk ⊢
      by_cases ck : k < (fr (nf - 1)).2.2.1.1
      · rw [if_pos ck, if_pos (by omega)]
      · rw [if_neg ck]
        by_cases ck2 : k < (fr (nf - 1)).2.2.1.1 + j
        · rw [if_pos ck2]
        · rw [if_neg ck2, show k - (fr (nf - 1)).2.2.1.1 = j by omega]) (fun k s hk => by rw [setF_s]; exact hk)
    rw [setF_2] at p4
    have c4 : chm z1 (hm1 (cs.drop (j + 1))) (cs.drop (j + 1)) := by
      rw [← e3]
      have e4 : z1.1 354 = (si z0 354 cs[j] (-1)).1 354 ∨ True := .inr trivial
      have k1 : chm (si z0 354 cs[j] (-1)) (z0.1 354 cs[j]) (cs.drop (j + 1)) := chm_of c3 (fun y hy => by
        have : y ≠ cs[j] := fun q => by
          have := List.take_append_drop j cs
          have nd2 : (cs.drop j).Nodup := (List.drop_sublist j cs).nodup nd
          rw [drop_c hj] at nd2
          exact (List.nodup_cons.mp nd2).1 (q ▸ hy)
        simp [si_1, this])
      have hpu : z1.1 354 = (si z0 354 cs[j] (-1)).1 354 := by
        have q := rpush_t (F := F) (v := nI cs[j]) (r := false) m1.1 m1.2.1 m1.2.2.2.1.2.2.2.1 (by have := m1.2.2.2.1.top.2.2; omega)
        rw [show bI false = 0 from rfl, p1] at q
        have q' := Option.some.inj q
        have q2 : z1 = puS (si z0 354 cs[j] (-1)) (bsm (setF fr (nf - 1) (setN (fr (nf - 1)) j sl)) nf) (nI cs[j]) false := congrArg Prod.fst q'
        rw [q2]
        funext y
        simp [puS, si_1]
      exact chm_of k1 (fun y _ => by rw [hpu])
    obtain ⟨z', q1, q2, q3⟩ := ih (j + 1) f' z1 (by omega) (by omega) c4 p4
    refine ⟨z', ?_, q2, m2.trans (p3.trans q3)⟩
    unfold fn_X18_unpack_L58
    rw [show ∀ a as, hm1 (a :: as) = nI a from fun _ _ => rfl, if_neg (nI_m1 (by omega))]
    simp only [b_model h.1, b_trees h.1, grd_true, lnk_s, okI_nI r2 (by omega), nI_clamp (n := cs[j]) (by omega), lt_t, p1, cal_s, e3]
    exact q1
/-- 22 -/
theorem RM.unpack (hF : 300 ≤ F) (h : RM sh n z H m fr nf na ak g lim) {ku a id : Nat} (hu : ∀ z', FrR z z' → z'.2.2 337 48 = some ku ∧ fn_X16_identity F sh n z' ku (nI a) = some (z', nI id)) (ho : okO sh n ku 16 = true) (hid2 : id < 2 ^ 31) (h1 : 1 ≤ (fr (nf - 1)).2.2.1.1) {x : Nat} (ex : ((fr (nf - 1)).2.2.1.2 ((fr (nf - 1)).2.2.1.1 - 1)).1 = x) (h0 : ((fr (nf - 1)).2.2.1.2 ((fr (nf - 1)).2.2.1.1 - 1)).2.1 = 0) (hk : (H x).1 = 6) (hlo : (H x).2.2.1 = lN id) (hr : Rt H x) (nd : (kds H x).Nodup) (pu : PU H) {sl : Nat → Sl} (hs : ∀ (i : Nat) (hi : i < (kds H x).length), (sl i).1 = (kds H x)[i] ∧ (sl i).2.1 = 0) (h64 : (fr (nf - 1)).2.2.1.1 - 1 + (kds H x).length ≤ 64) : ∃ z', fn_X18_unpack F sh n z 337 (nI a) = some (z', ()) ∧ RM sh n z' (upH H x (0, 0, 0, [])) m (setF fr (nf - 1) (setN (setH (fr (nf - 1)) ((fr (nf - 1)).2.2.1.1 - 1)) (kds H x).length sl)) nf na ak g lim ∧ FrR z z' := by
  subst ex
  have hal : (H ((fr (nf - 1)).2.2.1.2 ((fr (nf - 1)).2.2.1.1 - 1)).1).1 ≠ 0 := by omega
  obtain ⟨z1, p1, p2, p3⟩ := h.takeK (F := F) h1 h0 hal
  rw [hk] at p1
  obtain ⟨u1, u2⟩ := hu z1 p3
  obtain ⟨b1, b2⟩ := p2.2.2.1.i1 hal
  obtain ⟨r1, r2, r3, r4, r5⟩ := p2.2.2.1.row hal
  rw [hlo] at r3
  have M2 : RM sh n z1 (upH H ((fr (nf - 1)).2.2.1.2 ((fr (nf - 1)).2.2.1.1 - 1)).1 (0, 0, 0, [])) m (setF fr (nf - 1) (setH (fr (nf - 1)) ((fr (nf - 1)).2.2.1.1 - 1))) nf na ak g lim := p2.mov rfl rfl (fun _ _ _ => rfl) (fun _ _ _ => rfl) (p2.2.2.1.kill hr)
  have hrc : ∀ c, c ∈ kds H ((fr (nf - 1)).2.2.1.2 ((fr (nf - 1)).2.2.1.1 - 1)).1 → Rt (upH H ((fr (nf - 1)).2.2.1.2 ((fr (nf - 1)).2.2.1.1 - 1)).1 (0, 0, 0, [])) c ∧ c < 24576 := fun c hc => by
    refine ⟨fun v hv => ?_, (h.2.2.1.lt (h.2.2.1.cl hal c hc)).2⟩
    by_cases q : v = ((fr (nf - 1)).2.2.1.2 ((fr (nf - 1)).2.2.1.1 - 1)).1
    · rw [q, kds, upH_s] at hv; exact absurd hv (by simp)
    · rw [kds, upH_n q] at hv; exact q (pu v _ c hv hc)
  have hl := h.2.2.1.len hal
  have M3 : RM sh n z1 (upH H ((fr (nf - 1)).2.2.1.2 ((fr (nf - 1)).2.2.1.1 - 1)).1 (0, 0, 0, [])) m (setF (setF fr (nf - 1) (setH (fr (nf - 1)) ((fr (nf - 1)).2.2.1.1 - 1))) (nf - 1) (setN ((setF fr (nf - 1) (setH (fr (nf - 1)) ((fr (nf - 1)).2.2.1.1 - 1))) (nf - 1)) 0 sl)) nf na ak g lim := by
    refine M2.same _ rfl rfl (fun k hk => ?_) (fun k s hk => hk)
    simp only [setN] at hk ⊢
    rw [if_pos (by omega)]
  obtain ⟨z', q1, q2, q3⟩ := unpackL_t (F := F) (fr := setF fr (nf - 1) (setH (fr (nf - 1)) ((fr (nf - 1)).2.2.1.1 - 1))) hr hrc nd hs (by rw [setF_s, setH_T]; exact h64) (kds H ((fr (nf - 1)).2.2.1.2 ((fr (nf - 1)).2.2.1.1 - 1)).1).length 0 F z1 (by omega) (by omega) r5 M3
  rw [setF_s, setF_2] at q2
  refine ⟨z', ?_, q2, p3.trans q3⟩
  have b40 : fn_X18_unpack_B40 F sh n 337 (nI ((fr (nf - 1)).2.2.1.2 ((fr (nf - 1)).2.2.1.1 - 1)).1) z1 = some (z', ()) := by
    unfold fn_X18_unpack_B40
    simp only [b_model p2.1, b_trees p2.1, grd_true, p2.goes, cal_s, if_neg one0, lnk_s, b1, b2, r4, lt_t]
    exact q1
  unfold fn_X18_unpack
  rw [show (6 : Int32) = nI 6 from rfl]
  simp only [b_model h.1, b_model p2.1, b_trees p2.1, grd_true, p1, cal_s, p2.goes, if_neg one0, lnk_s, b1, b2, r3, u1, ho, u2, nI_l hid2, ↓reduceIte, b40]
end
