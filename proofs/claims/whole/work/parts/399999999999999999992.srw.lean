/-! THE CLASS'S READER: both passes -/
section
variable {F n : Nat} {sh : Nat → Nat × Nat} {z z' : St} {kp kb len : Nat} {b : Nat → Nat} {J : Bool} {r : Ex Nat} {ks js hs : List Nat} {Jo : Option JI}
theorem RoC.fr {i off : Nat} {ss : List CP} (h : RoC z kp b i off ss) (f : ∀ x, 9 * i ≤ x → z'.1 (kp + 4) x = z.1 (kp + 4) x) : RoC z' kp b i off ss := fun k hk => by
  have := h k hk
  unfold CRo at this ⊢
  rw [f _ (by omega), f _ (by omega), f _ (by omega), f _ (by omega), f _ (by omega), f _ (by omega), f _ (by omega), f _ (by omega)]
  exact this
theorem KX.passT (hF : 1100 ≤ F) (h : KX sh n z kp kb b len J (.ok 0)) (ej : Jo.isSome = J) (hM : ∀ j, Jo = some j → ∃ q, pAll b len = .ok q ∧ j = jiOf q.1) (hj : ∀ m, jAll Jo = some m → z.1 kp 9 = nI m ∧ m < 256) (e4 : z.1 kp 4 = nI 0) (e6 : z.1 kp 6 = nI 0) (e5 : z.1 60 5 = nI 0) {K : St → Option (St × Int32)} : ∃ z', cal (fn_X6_readBeginning F sh n z 60) (fun z_30 _ => cal (fn_X6_readStructures F sh n z_30 60) (fun z_32 _ => cal (fn_X6_readForeignStructures F sh n z_32 60) (fun z_34 _ => cal (fn_X6_readForeignFunctions F sh n z_34 60) (fun z_36 _ => lnk (z_36.2.2 60 2) (fun k_38 => lnk (z_36.2.2 60 2) (fun k_39 => grd (okO sh n k_39 5) (grd (okO sh n k_38 5) (lt_ (si z_36 k_38 13 (z_36.1 k_39 4)) (fun z_43 => lnk (z_43.2.2 60 2) (fun k_44 => cal (fn_X6_readNumber F sh n z_43 60 0 32) (fun z_45 r_46 => grd (okO sh n k_44 5) (lt_ (si z_45 k_44 14 r_46) (fun z_50 => lnk (z_50.2.2 60 2) (fun k_51 => grd (okO sh n k_51 5) (cal (fn_X6_readTypes F sh n z_50 60 (z_50.1 k_51 14) 0) (fun z_53 _ => cal (fn_X6_readFunctions F sh n z_53 60) (fun z_55 _ => lnk (z_55.2.2 60 2) (fun k_57 => grd (okO sh n k_57 5) (if ((z_55.1 k_57 1) : Int32) ≤ (z_55.1 60 3) then K z_55 else cal (fn_X6_fail F sh n z_55 60 6 (z_55.1 60 3)) (fun z_61 _ => K z_61)))))))))))))))))))) = K z' ∧ KX sh n z' kp kb b len J (cu (gAll b len Jo)) ∧ (∀ q, gAll b len Jo = .ok q → TMc z' kp b q.1) ∧ FrPs kp z z' := by
  have hk := isP_ne h.1.2.1
  obtain ⟨z1, a1, a2, a3, ⟨al, a4, a4'⟩, a5⟩ := h.pre (F := F) (by omega) ej hM hj e4 (K := fun z_53 => cal (fn_X6_readFunctions F sh n z_53 60) (fun z_55 _ => lnk (z_55.2.2 60 2) (fun k_57 => grd (okO sh n k_57 5) (if ((z_55.1 k_57 1) : Int32) ≤ (z_55.1 60 3) then K z_55 else cal (fn_X6_fail F sh n z_55 60 6 (z_55.1 60 3)) (fun z_61 _ => K z_61)))))
  rw [a1]
  obtain ⟨z2, b1, b2, b3⟩ := a2.number (F := F) (lo := 0) (hi := 64) (il := 0) (ih := 64) rfl rfl (by omega) (by omega)
  have v64 : vN (cu (gPre b len Jo) >>= rN b len 0 64) ≤ 64 := vN_rN (by omega)
  have f11 : FrKd kp [] [11] [] z2 (si z2 kp 11 (nI (vN (cu (gPre b len Jo) >>= rN b len 0 64)))) := FrKd.siP h.1.ne (by simp)
  have e11 : (si z2 kp 11 (nI (vN (cu (gPre b len Jo) >>= rN b len 0 64)))).1 kp 11 = nI (vN (cu (gPre b len Jo) >>= rN b len 0 64)) := si_ss
  have k11 := b2.fr f11 (by simp) (by simp) (by simp)
  unfold fn_X6_readFunctions
  rw [h.1.o, grd_true, b1, cal_s, b2.1.2.2.1, lnk_s, h.1.p, grd_true, lt_t]
  generalize si z2 kp 11 (nI (vN (cu (gPre b len Jo) >>= rN b len 0 64))) = Y at f11 e11 k11
  have fY : FrKd kp [] [11] [0, 1, 3] z1 Y := (b3.g (by simp)).trans (f11.mono (by simp) (by simp) (by simp))
  have fZ : FrKd kp [kp + 1, kp + 3, kp + 4] [2, 4, 8, 9, 11, 12, 13, 14] [0, 1, 3] z Y := (a5.mono (by simp) (by simp) (by simp)).trans (fY.mono (by simp) (by simp) (by simp))
  -- the functions
  obtain ⟨z3, c1, c2, c3, c4, c5⟩ := KX.fns (F := F) hF ej (own := vN (cu (gPre b len Jo) >>= rN b len 0 64)) (nm := shB b 4) v64 (T0 := lv (gPre b len Jo >>= fun x => .ok (flS x.1.1 ++ flC x.1.2.2.1 ++ x.1.2.2.2.map (fun e => e.2), x.2))) (vN (cu (gPre b len Jo) >>= rN b len 0 64)) F Y (cu (cu (gPre b len Jo) >>= rN b len 0 64)) [] (Nat.zero_add _) (by omega) k11 (fun p y => by
    obtain ⟨e, y1, y2⟩ := cu_ok y
    obtain ⟨p0, y3, y4⟩ := bq_ok y1
    obtain ⟨x, y5, y6⟩ := cu_ok y3
    obtain ⟨⟨x1, x2, x3, x4, x5, x6⟩, x7, x8, x9, x10, x11, x12, x13, x14⟩ := a3 x y5
    obtain ⟨_, ee, _⟩ := rN_ok y4
    have vv : vN (cu (gPre b len Jo) >>= rN b len 0 64) = e.1 := by rw [y5]; show vN (rN b len 0 64 x.2) = _; rw [y6, y4]; rfl
    have py : p = p0 + 1 := by rw [← y2, ee]
    rw [y5, ok_bq]
    refine ⟨⟨?_, ?_, ?_, ?_, ?_, Nat.zero_le _, fun f hf => absurd hf (by simp)⟩, ⟨⟨al, a4, by rw [fY.2.2.2.1 9 (by simp)]; exact a4'⟩, ?_⟩, by rw [fY.2.2.2.1 2 (by simp)]; exact x1⟩
    · show TyT Y kp (flS x.1.1 ++ flC x.1.2.2.1 ++ x.1.2.2.2.map (fun e => e.2) ++ flG [])
      rw [show flG [] = [] from rfl, List.append_nil]
      exact x10.fr fY (by simp) (by simp)
    · show (flS x.1.1 ++ flC x.1.2.2.1 ++ x.1.2.2.2.map (fun e => e.2) ++ flG []).length ≤ p
      rw [show flG [] = [] from rfl, List.append_nil]
      omega
    · exact ⟨by rw [fZ.2.2.2.1 6 (by simp)]; exact e6, fun j hj => absurd hj (by simp [allC])⟩
    · show 0 < p
      omega
    · rw [fZ.2.2.2.2 5 (by simp)]; exact e5
    · intro j hJo
      subst hJo
      obtain ⟨Q, q1, q2⟩ := hM j rfl
      obtain ⟨w1, w2⟩ := gPre_j q1 y5
      have pk := (pAll_p q1).1
      have s1 : x.1.1 = Q.1.1 := by rw [w1]
      have s2 : x.1.2.1 = Q.1.2.1 := by rw [w1]
      have s3 : x.1.2.2.1 = Q.1.2.2.1 := by rw [w1]
      have s4 : x.1.2.2.2 = Q.1.2.2.2.1 := by rw [w1]
      have l1 := pk.1.1
      have l2 := pk.2.1.1
      have l3 := pk.2.2.1.1
      have l4 := pk.2.2.2.1.1
      have l5 := pk.2.2.2.2.1
      have fl : e.1 = Q.1.2.2.2.2.length := by
        unfold q5 at w2
        obtain ⟨e', u1, u3⟩ := bq_ok w2
        obtain ⟨fs, u2, u4⟩ := bq_ok u3
        have ee' : e' = e := by
          rw [y6, y4] at u1
          cases u1; rfl
        rw [ee'] at u2
        by_cases c : fs.2 < len
        · rw [if_pos c] at u4; cases u4
        · rw [if_neg c] at u4
          have u' : fs = (Q.1.2.2.2.2, Q.2) := by cases u4; rfl
          have := pFs_len _ u2
          rw [u'] at this
          have this' : Q.1.2.2.2.2.length = 0 + e.1 := this
          omega
      rw [q2]
      unfold jiOf
      show Y.1 kp 8 = nI Q.1.1.length ∧ Y.1 kp 9 = nI (Q.1.1.length + Q.1.2.1.length) ∧ Q.1.1.length ≤ 32 ∧ Q.1.1.length ≤ Q.1.1.length + Q.1.2.1.length ∧ Q.1.1.length + Q.1.2.1.length ≤ 64 ∧ (∀ s, s < Q.1.1.length → Y.1 (kp + 3) (7 * s + 3) = nI (fdM Q.1 s) ∧ fdM Q.1 s < 256) ∧ Y.1 kp 11 + Y.1 kp 12 = nI (Q.1.2.2.2.2.length + Q.1.2.2.1.length) ∧ Q.1.2.2.2.2.length + Q.1.2.2.1.length < 256 ∧ Y.1 kp 14 = nI Q.1.2.2.2.1.length ∧ Q.1.2.2.2.1.length < 256
      refine ⟨?_, ?_, l1, by omega, by omega, fun s hs => ⟨?_, ?_⟩, ?_, by omega, ?_, by omega⟩
      · rw [fY.2.2.2.1 8 (by simp), x2, s1]
      · rw [fY.2.2.2.1 9 (by simp), x3, s1, s2]
      · have := (x7 s (by rw [s1]; exact hs)).2.2.2.1
        rw [Nat.zero_add, s1] at this
        rw [fY.2.1 (kp + 3) (by omega) (by omega) (by simp), this]
        rfl
      · have := (pk.1.2 (Q.1.1.getD s dSP) (getD_m hs)).2.2.2.2.2.1
        show (Q.1.1.getD s dSP).2.2.length < 256
        omega
      · rw [e11, vv, fl, fY.2.2.2.1 12 (by simp), x4, s3, nI_add]
      · rw [fY.2.2.2.1 14 (by simp), x6, s4])
  rw [cntN (f := fun a c => gFns b len Jo a [] c), cu_c] at c2 c3
  have c1' : fn_X6_readFunctions_L18 F sh n (nI (vN (cu (gPre b len Jo) >>= rN b len 0 64))) 60 F Y 0 = some (z3, ()) := c1
  have f3 : FrPs kp z z3 := (fZ.mono (by simp) (by simp) (by simp)).trans (c5.mono (by simp) (by simp) (by simp))
  rw [c1', cal_s, c2.1.2.2.1, lnk_s, h.1.p, grd_true, c2.1.2.2.2.2.2.1]
  rw [gAll_pre]
  unfold gq5
  cases e : gPre b len Jo with
  | error w =>
    rw [e] at c2
    have c2' : KX sh n z3 kp kb b len J (.error w) := c2
    refine ⟨z3, ?_, c2', fun q y => (by cases y), f3⟩
    rw [c2'.fail_e, cal_s, ite_self]
  | ok x =>
    rw [e, ok_bq] at c2 c3
    rw [ok_bq]
    cases e2 : rN b len 0 64 x.2 with
    | error w =>
      rw [e2] at c2
      have c2' : KX sh n z3 kp kb b len J (.error w) := c2
      refine ⟨z3, ?_, c2', fun q y => (by cases y), f3⟩
      rw [c2'.fail_e, cal_s, ite_self]
    | ok g =>
      rw [e2, ok_bq] at c2 c3
      rw [ok_bq]
      cases e3 : gFns b len Jo g.1 [] g.2 with
      | error w =>
        rw [e3] at c2
        have c2' : KX sh n z3 kp kb b len J (.error w) := c2
        refine ⟨z3, ?_, c2', fun q y => (by cases y), f3⟩
        rw [c2'.fail_e, cal_s, ite_self]
      | ok fs =>
        rw [e3] at c2
        have c2' : KX sh n z3 kp kb b len J (.ok fs.2) := c2
        have l8 := h.1.2.2.2.2.2.2.1
        have fl := c2'.2.2.1
        rw [c2'.2.1, ok_bq]
        have c3' := c3 fs e3
        by_cases c : fs.2 < len
        · obtain ⟨z4, s1, s2, s3⟩ := c2'.fail (F := F) (w := 6) (f := fun _ => fs.2) (iw := 6) (x := nI fs.2) rfl (fun _ _ => rfl) (by omega) (by omega)
          rw [if_neg (fun y => by have := (nI_leI (by omega) (by omega)).mp y; omega), s1, cal_s, if_pos c]
          exact ⟨z4, rfl, s2, fun q y => (by cases y), f3.trans (s3.g (by simp))⟩
        · rw [if_pos ((nI_leI (by omega) (by omega)).mpr (by omega)), if_neg c, ok_bq]
          refine ⟨z3, rfl, c2', fun q y => ?_, f3⟩
          cases y
          obtain ⟨⟨x1, x2, x3, x4, x5, x6⟩, x7, x8, x9, x10, x11, x12, x13, x14⟩ := a3 x e
          have vv : vN (cu (gPre b len Jo) >>= rN b len 0 64) = g.1 := by rw [e]; show vN (rN b len 0 64 x.2) = _; rw [e2]; rfl
          have gl := gFns_len _ e3
          have gl' : fs.1.length = 0 + g.1 := gl
          obtain ⟨t1, t2, t3, t4, t5, t6, t7⟩ := c3'
          have row3 : ∀ y, z3.1 (kp + 3) y = z1.1 (kp + 3) y := fun y => by
            rw [c5.2.1 (kp + 3) (by omega) (by omega) (by simp), fY.2.1 (kp + 3) (by omega) (by omega) (by simp)]
          have t2' : (allT (x.1.1, x.1.2.1, x.1.2.2.1, x.1.2.2.2, fs.1)).length ≤ fs.2 := t2
          refine ⟨⟨?_, ?_, ?_, ?_, ?_, ?_, ?_⟩, ?_, ?_, ?_, t7, t1, t3, Nat.le_trans t2' (by omega), by show (allC fs.1).length ≤ 2048; omega⟩
          · rw [c5.2.2.2.1 2 (by simp), fY.2.2.2.1 2 (by simp)]; exact x1
          · rw [c5.2.2.2.1 8 (by simp), fY.2.2.2.1 8 (by simp)]; exact x2
          · rw [c5.2.2.2.1 9 (by simp), fY.2.2.2.1 9 (by simp)]; exact x3
          · rw [c5.2.2.2.1 11 (by simp), e11, vv, gl', Nat.zero_add]
          · rw [c5.2.2.2.1 12 (by simp), fY.2.2.2.1 12 (by simp)]; exact x4
          · rw [c5.2.2.2.1 13 (by simp), fY.2.2.2.1 13 (by simp)]; exact x5
          · rw [c5.2.2.2.1 14 (by simp), fY.2.2.2.1 14 (by simp)]; exact x6
          · exact x7.fr (fun y hy => row3 y)
          · exact fun k hk => (x8 k hk).fr (fun y hy => row3 y)
          · exact x9.fr (fun y hy => by rw [c4 y (by omega), fY.2.1 (kp + 4) (by omega) (by omega) (by simp)])
end
