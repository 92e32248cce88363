/-! BOTH MACHINES SIDE BY SIDE: rows of values (56 .. 58), the hash (59) -/
section
variable {E : Ev} {F n : Nat} {sh : Nat → Nat × Nat} {pk : Nat → Nat} {kt : Nat} {sl0 : Int32} {lim e : Nat} {zr zc zr' zc' : St} {H : Hp} {m : Nat} {ty : Nat → Nat} {fr : Nat → Fm} {nf na : Nat} {ak : Nat → Ask} {g g' : Nat} {Hc : Hp} {mc : Nat} {phi : Nat → Nat} {Rn : Nat → Option Nat} {cs cl : Nat → Nat → Nat} {cn : Nat → Nat} {ws : Nat → Int64 → Nat → Bool} {u : Nat} {U : Md} {ls : List Ty} {L L' : Lks} {R C : Option (St × Unit)}
/-- the heap changes within, c are taken -/
theorem Out.drpH (h : Sm E sh n pk kt sl0 lim 1 zr zc H m ty fr nf na ak g Hc mc phi Rn cs cl cn ws) (fm : FM U ls (fr (nf - 1)) L) {c : Nat} {H' Hc' : Hp} (hc : c ≤ L.1.1) (mj : MJ E H' m ty (setF fr (nf - 1) (setH (fr (nf - 1)) ((fr (nf - 1)).2.2.1.1 - c))) nf na ak (fun _ => none)) (rc : RC H' ty phi Rn Hc') (noa : NoA ty H') (er : R = some (zr', ())) (ec : C = some (zc', ())) (rm : RM sh n zr' H' m (setF fr (nf - 1) (setH (fr (nf - 1)) ((fr (nf - 1)).2.2.1.1 - c))) nf na ak g lim) (cm : CM sh n zc' pk kt Hc' mc sl0 (setF fr (nf - 1) (setH (fr (nf - 1)) ((fr (nf - 1)).2.2.1.1 - c))) cs cl nf g lim) (f1 : FrR zr zr') (f2 : FrC zc zc') : Out E sh n pk kt sl0 lim zr zc fr nf na ak g ws U ls ((L.1.1 - c, L.1.2), L.2) (fun i => i = (fr (nf - 1)).1.2.2) R C := by
  obtain ⟨I, _, cm0, cj, r, sr, an, na2, rn, rm1, rm2⟩ := h
  exact ⟨zr', zc', er, ec, f1, f2.x, .inr ⟨H', m, ty, _, na, ak, g, Hc', mc, phi, Rn, cs, cl, cn, ⟨mj, rm, cm, cj.fc f2, rc, sr.drp rfl (by have := fm.1; omega) (fun x d k t c w _ => sr.1 _ _ _ _ _ w), an, noa, rn, by omega, by omega⟩, AkL.same (by omega), rfl, rfl, rfl, fm.drop c⟩⟩
/-- another node than N is as it was -/
theorem NoA.set {ty : Nat → Nat} {H : Hp} (h : NoA ty H) {N : Nat} {x : Nd} (hN : (H N).1 ≠ 0) : NoA ty (upH H N x) := fun v hv => by
  by_cases c : v = N
  · rw [c]; exact h N hN
  · rw [upH_n c] at hv; exact h v hv
/-- 56 -/
theorem sim_56 (hF : 300 ≤ F) (h : Sm E sh n pk kt sl0 lim 1 zr zc H m ty fr nf na ak g Hc mc phi Rn cs cl cn ws) (hE : EvOk E) (hA : EvA E) (hU : UOk E u U) (fm : FM U ls (fr (nf - 1)) L) {T : Ty} (h2 : 2 ≤ L.1.1) (t1 : (L.1.2 (L.1.1 - 1)).1 = T) (t2 : (L.1.2 (L.1.1 - 2)).1 = 9 :: 7 :: T) (hT : T ∈ elsOf U) (hso : lSole ls ((L.1.1 - 2, L.1.2), L.2) (L.1.2 (L.1.1 - 2)).2.1 = true) {b b' : Int32} : Out E sh n pk kt sl0 lim zr zc fr nf na ak g ws U ls ((L.1.1 - 2, L.1.2), L.2) (fun i => i = (fr (nf - 1)).1.2.2) (fn_X18_onVector F sh n zr 337 56 b) (fn_X4_lineUp F sh n zc 87 56 b') := by
  have hh := fm.1
  obtain ⟨e1, e2, e3⟩ := hU.2.1 T hT
  obtain ⟨a1, a2, a3, a4, a5, a6, a7, a8, a9, a10, a11, a12⟩ := h.rft fm (i := 2) (by omega) h2 (.inr rfl) t2 (PT_v e1)
  rw [sT_v e1] at a5
  obtain ⟨v1, v2, v3, v4, v5, v6, v7, v8⟩ := h.vec a4 a5 e3
  have s1 := fm.2.2.1 (L.1.1 - 1) (by omega)
  obtain ⟨b0, b1, b2, b3, b4⟩ := h.pl (k := (fr (nf - 1)).2.2.1.1 - 1) (by omega) (by rw [hh]; exact s1.1) (by rw [t1]; exact e1)
  rw [t1] at b3
  have n11 : ty ((fr (nf - 1)).2.2.1.2 ((fr (nf - 1)).2.2.1.1 - 1)).1 ≠ 11 := by rw [b3]; exact e3
  have rt := (h.rtv (k := (fr (nf - 1)).2.2.1.1 - 1) (by omega) b0).2
  have tyn := h.ht.tyn hA h.2.2.2.2.2.2.2.1
  have rtc := h.2.2.2.2.1.rt b2 n11 rt (fun w hw h256 c hc => ⟨tyn.1 w c hc, tyn.2 w hw h256 c hc⟩)
  have alv := h.2.2.2.2.1.al b2 n11
  have RV := h.2.1.v56 (F := F) hF h.pu (by omega) rfl rfl a2 b0 v1 b2 rt (h.ht.2 _ a4).2.2.2.1 (b := b)
  have CV := h.2.2.1.v56 (F := F) (by omega) rfl b1 (by rw [a6]) (by rw [a6]) a8 a9 v6 alv rtc (x1 := b')
  rw [v8] at CV
  by_cases c : (kds H ((fr (nf - 1)).2.2.1.2 ((fr (nf - 1)).2.2.1.1 - 2)).1).length = 256
  · obtain ⟨z1, q1, q2, q3⟩ := RV.1 c
    obtain ⟨z2, d1, d2, d3⟩ := CV.1 c
    exact Out.end 2 4 g (.inr rfl) q1 d1 q2 d2 q3 d3.x
  · obtain ⟨z1, q1, q2, q3⟩ := RV.2 (by omega)
    obtain ⟨z2, d1, d2, d3⟩ := CV.2 (by omega)
    have lt : LTm E (ty ((fr (nf - 1)).2.2.1.2 ((fr (nf - 1)).2.2.1.1 - 2)).1) (setC (H ((fr (nf - 1)).2.2.1.2 ((fr (nf - 1)).2.2.1.1 - 2)).1) (kds H ((fr (nf - 1)).2.2.1.2 ((fr (nf - 1)).2.2.1.1 - 2)).1 ++ [((fr (nf - 1)).2.2.1.2 ((fr (nf - 1)).2.2.1.1 - 1)).1])) ((kds H ((fr (nf - 1)).2.2.1.2 ((fr (nf - 1)).2.2.1.1 - 2)).1 ++ [((fr (nf - 1)).2.2.1.2 ((fr (nf - 1)).2.2.1.1 - 1)).1]).map ty) := by
      rw [a5]
      refine .inr (.inr (.inr (.inr (.inr (.inr (.inr ⟨by omega, v1, v2, v3, fun w hw => ?_, ?_⟩))))))
      · rw [Nat.add_sub_cancel_left]
        obtain ⟨y, y1, y2⟩ := List.mem_map.mp hw
        rcases List.mem_append.mp y1 with q | q
        · rw [← y2]; exact v4 y q
        · rw [← y2, List.mem_singleton.mp q]; exact b3
      · simp; omega
    have sole : ∀ s, s.2.1 ≠ 0 → ((∃ k, k < (fr (nf - 1)).2.2.1.1 ∧ k ≠ (fr (nf - 1)).2.2.1.1 - 2 ∧ (fr (nf - 1)).2.2.1.2 k = s) ∨ ∃ k, (fr (nf - 1)).2.1 k = some s) → mt s.2.2.2.1 ((fr (nf - 1)).2.2.1.2 ((fr (nf - 1)).2.2.1.1 - 2)).2.2.2.1 → s.2.1 = 9 ∧ s.2.2.2.2 = false := fun s hs hq hm => by
      refine (fm.drop 2).sole hso hs ?_ (by rw [← a11]; exact hm)
      rcases hq with ⟨k, k1, k2, k3⟩ | w
      · by_cases c : k = (fr (nf - 1)).2.2.1.1 - 1
        · subst c; rw [k3] at b0; exact absurd b0 hs
        · exact .inl ⟨k, by show k < (fr (nf - 1)).2.2.1.1 - 2; omega, k3⟩
      · exact .inr w
    have mj := (h.1.app hE (by omega) a1 b0 lt sole).1
    have rc := h.2.2.2.2.1.parts (cs := kds H ((fr (nf - 1)).2.2.1.2 ((fr (nf - 1)).2.2.1.1 - 2)).1 ++ [((fr (nf - 1)).2.2.1.2 ((fr (nf - 1)).2.2.1.1 - 1)).1]) h.ht a4 (by omega) (by omega)
    have ek : ((kds H ((fr (nf - 1)).2.2.1.2 ((fr (nf - 1)).2.2.1.1 - 2)).1 ++ [((fr (nf - 1)).2.2.1.2 ((fr (nf - 1)).2.2.1.1 - 1)).1]).map phi).reverse = phi ((fr (nf - 1)).2.2.1.2 ((fr (nf - 1)).2.2.1.1 - 1)).1 :: (Hc (phi ((fr (nf - 1)).2.2.1.2 ((fr (nf - 1)).2.2.1.1 - 2)).1)).2.2.2 := by
      rw [v7]; simp
    rw [ek] at rc
    exact Out.drpH h fm (c := 2) h2 mj rc (h.2.2.2.2.2.2.2.1.set a4) q1 d1 q2 d2 q3 d3
/-- 58 -/
theorem sim_58 (hF : 300 ≤ F) (h : Sm E sh n pk kt sl0 lim 1 zr zc H m ty fr nf na ak g Hc mc phi Rn cs cl cn ws) (hE : EvOk E) (hA : EvA E) (hU : UOk E u U) (fm : FM U ls (fr (nf - 1)) L) {T : Ty} (h3 : 3 ≤ L.1.1) (t1 : (L.1.2 (L.1.1 - 1)).1 = [3]) (t2 : (L.1.2 (L.1.1 - 2)).1 = [3]) (t3 : (L.1.2 (L.1.1 - 3)).1 = 9 :: 7 :: T) (hT : T ∈ elsOf U) (hso : lSole ls ((L.1.1 - 3, L.1.2), L.2) (L.1.2 (L.1.1 - 3)).2.1 = true) {b b' : Int32} : Out E sh n pk kt sl0 lim zr zc fr nf na ak g ws U ls ((L.1.1 - 3, L.1.2), L.2) (fun i => i = (fr (nf - 1)).1.2.2) (fn_X18_onVector F sh n zr 337 58 b) (fn_X4_lineUp F sh n zc 87 58 b') := by
  have hh := fm.1
  obtain ⟨e1, e2, e3⟩ := hU.2.1 T hT
  obtain ⟨a1, a2, a3, a4, a5, a6, a7, a8, a9, a10, a11, a12⟩ := h.rft fm (i := 3) (by omega) h3 (.inr rfl) t3 (PT_v e1)
  rw [sT_v e1] at a5
  obtain ⟨v1, v2, v3, v4, v5, v6, v7, v8⟩ := h.vec a4 a5 e3
  obtain ⟨b0, b1, pb1, pb2, pb3, pb4, pb5⟩ := h.top fm (i := 1) (by omega) (by omega) (by omega) (by omega) t1
  obtain ⟨c0, c1, pc1, pc2, pc3, pc4, pc5⟩ := h.top fm (i := 2) (by omega) (by omega) (by omega) (by omega) t2
  have RV := h.2.1.v58 (F := F) hF (by omega) rfl rfl rfl a2 b0 c0 v1 pb1 pc1 (b := b)
  have CV := h.2.2.1.v58 (F := F) hF (by omega) rfl b1 c1 (by rw [a6]) (by rw [a6]) a8 a9 v6 pb2 pc2 (x1 := b')
  rw [v8, pb4, pc4] at CV
  obtain ⟨o1, o2, o3⟩ := h.own hA a4 (by omega)
  by_cases c : (∀ j, j < (kds H ((fr (nf - 1)).2.2.1.2 ((fr (nf - 1)).2.2.1.1 - 3)).1).length → (H ((fr (nf - 1)).2.2.1.2 ((fr (nf - 1)).2.2.1.1 - 1)).1).2.2.1 ≠ lN j) ∨ (∀ j, j < (kds H ((fr (nf - 1)).2.2.1.2 ((fr (nf - 1)).2.2.1.1 - 3)).1).length → (H ((fr (nf - 1)).2.2.1.2 ((fr (nf - 1)).2.2.1.1 - 2)).1).2.2.1 ≠ lN j)
  · obtain ⟨z1, q1, q2, q3⟩ := RV.1 c
    obtain ⟨z2, d1, d2, d3⟩ := CV.1 c
    exact Out.end 2 2 g (.inr rfl) q1 d1 q2 d2 q3 d3.x
  · have ex : ∀ x : Int64, ¬ (∀ j, j < (kds H ((fr (nf - 1)).2.2.1.2 ((fr (nf - 1)).2.2.1.1 - 3)).1).length → x ≠ lN j) → ∃ j, j < (kds H ((fr (nf - 1)).2.2.1.2 ((fr (nf - 1)).2.2.1.1 - 3)).1).length ∧ x = lN j := fun x hx => by
      apply Classical.byContradiction
      intro q
      exact hx (fun j hj w => q ⟨j, hj, w⟩)
    obtain ⟨i, hi, ei⟩ := ex _ (fun q => c (.inl q))
    obtain ⟨j, hj, ej⟩ := ex _ (fun q => c (.inr q))
    obtain ⟨k1, k2⟩ := o3 _ (List.getElem_mem hi)
    obtain ⟨l1, l2⟩ := o3 _ (List.getElem_mem hj)
    have hd : ∀ x (hx : x < (kds H ((fr (nf - 1)).2.2.1.2 ((fr (nf - 1)).2.2.1.1 - 3)).1).length), hd0 ((Hc (phi ((fr (nf - 1)).2.2.1.2 ((fr (nf - 1)).2.2.1.1 - 3)).1)).2.2.2.drop ((kds H ((fr (nf - 1)).2.2.1.2 ((fr (nf - 1)).2.2.1.1 - 3)).1).length - 1 - x)) = phi (kds H ((fr (nf - 1)).2.2.1.2 ((fr (nf - 1)).2.2.1.1 - 3)).1)[x] := fun x hx => by
      have := hd0_rev (f := phi) hx
      rw [← v7] at this
      rw [v8] at this
      exact this
    obtain ⟨z1, q1, q2, q3⟩ := RV.2 i j hi hj ei ej
    obtain ⟨z2, d1, d2, d3⟩ := CV.2 i j _ _ hi hj ei ej (hd i hi) (hd j hj) (h.2.2.2.2.1.al k1 k2) (h.2.2.2.2.1.al l1 l2)
    have tij : ty (kds H ((fr (nf - 1)).2.2.1.2 ((fr (nf - 1)).2.2.1.1 - 3)).1)[i] = ty (kds H ((fr (nf - 1)).2.2.1.2 ((fr (nf - 1)).2.2.1.1 - 3)).1)[j] := by rw [v4 _ (List.getElem_mem hi), v4 _ (List.getElem_mem hj)]
    have sole : ∀ s, s.2.1 ≠ 0 → ((∃ k, k < (fr (nf - 1)).2.2.1.1 ∧ k ≠ (fr (nf - 1)).2.2.1.1 - 3 ∧ (fr (nf - 1)).2.2.1.2 k = s) ∨ ∃ k, (fr (nf - 1)).2.1 k = some s) → mt s.2.2.2.1 ((fr (nf - 1)).2.2.1.2 ((fr (nf - 1)).2.2.1.1 - 3)).2.2.2.1 → s.2.1 = 9 ∧ s.2.2.2.2 = false := fun s hs hq hm => by
      refine (fm.drop 3).sole hso hs ?_ (by rw [← a11]; exact hm)
      rcases hq with ⟨k, k1, k2, k3⟩ | w
      · by_cases c : k = (fr (nf - 1)).2.2.1.1 - 1
        · subst c; rw [k3] at b0; exact absurd b0 hs
        · by_cases c' : k = (fr (nf - 1)).2.2.1.1 - 2
          · subst c'; rw [k3] at c0; exact absurd c0 hs
          · exact .inl ⟨k, by show k < (fr (nf - 1)).2.2.1.1 - 3; omega, k3⟩
      · exact .inr w
    have mj := h.1.swp hE (by omega) a1 (List.getElem_mem hi) (List.getElem_mem hj) tij sole
    exact Out.drpH h fm (c := 3) h3 mj (h.2.2.2.2.1.swap h.ht k1 l1 tij k2) ((h.2.2.2.2.2.2.2.1.set k1).set (by
      by_cases q : (kds H ((fr (nf - 1)).2.2.1.2 ((fr (nf - 1)).2.2.1.1 - 3)).1)[j] = (kds H ((fr (nf - 1)).2.2.1.2 ((fr (nf - 1)).2.2.1.1 - 3)).1)[i]
      · rw [q, upH_s]; exact k1
      · rw [upH_n q]; exact l1)) q1 d1 q2 d2 q3 d3
/-- 57 -/
theorem sim_57 (hF : 300 ≤ F) (h : Sm E sh n pk kt sl0 lim 1 zr zc H m ty fr nf na ak g Hc mc phi Rn cs cl cn ws) (hE : EvOk E) (hA : EvA E) (hU : UOk E u U) (fm : FM U ls (fr (nf - 1)) L) {T : Ty} (h1 : 1 ≤ L.1.1) (t1 : (L.1.2 (L.1.1 - 1)).1 = 9 :: 7 :: T) (hT : T ∈ elsOf U) (hso : lSole ls ((L.1.1 - 1, L.1.2), L.2) (L.1.2 (L.1.1 - 1)).2.1 = true) (hp : lPush (T, 0, false) ((L.1.1 - 1, L.1.2), L.2) = .ok L') {b b' : Int32} : Out E sh n pk kt sl0 lim zr zc fr nf na ak g ws U ls L' (fun i => i = (fr (nf - 1)).1.2.2) (fn_X18_onVector F sh n zr 337 57 b) (fn_X4_lineUp F sh n zc 87 57 b') := by
  have hh := fm.1
  obtain ⟨e1, e2, e3⟩ := hU.2.1 T hT
  obtain ⟨a1, a2, a3, a4, a5, a6, a7, a8, a9, a10, a11, a12⟩ := h.rft fm (i := 1) (by omega) h1 (.inr rfl) t1 (PT_v e1)
  rw [sT_v e1] at a5
  obtain ⟨v1, v2, v3, v4, v5, v6, v7, v8⟩ := h.vec a4 a5 e3
  have RV := h.2.1.v57 (F := F) hF h.pu (by omega) h.h64 a2 rfl v1 (h.ht.2 _ a4).2.2.2.1 (b := b) (t := sT U.2.2.2.1 T)
  have CV := h.2.2.1.v57 (F := F) (by omega) rfl (by rw [a6]) (by rw [a6]) a8 a9 v6 (x1 := b')
  obtain ⟨o1, o2, o3⟩ := h.own hA a4 (by omega)
  rcases List.eq_nil_or_concat (kds H ((fr (nf - 1)).2.2.1.2 ((fr (nf - 1)).2.2.1.1 - 1)).1) with c | ⟨ks, x, c⟩
  · obtain ⟨z1, q1, q2, q3⟩ := RV.1 c
    obtain ⟨z2, d1, d2, d3⟩ := CV.1 (by rw [v7, c]; rfl)
    exact Out.end 2 2 g (.inr rfl) q1 d1 q2 d2 q3 d3.x
  · have xm : x ∈ kds H ((fr (nf - 1)).2.2.1.2 ((fr (nf - 1)).2.2.1.1 - 1)).1 := by rw [c]; simp
    obtain ⟨x1, x2⟩ := o3 x xm
    have xt := v4 x xm
    have ek : (Hc (phi ((fr (nf - 1)).2.2.1.2 ((fr (nf - 1)).2.2.1.1 - 1)).1)).2.2.2 = phi x :: (ks.map phi).reverse := by rw [v7, c]; simp
    have nd : (phi x :: (ks.map phi).reverse).Nodup := by
      have : ((kds H ((fr (nf - 1)).2.2.1.2 ((fr (nf - 1)).2.2.1.1 - 1)).1).map phi).reverse.Nodup := nodup_rev o1
      rw [← v7, ek] at this
      exact this
    rw [List.nodup_cons] at nd
    obtain ⟨z1, q1, q2, q3⟩ := RV.2 ks x (by rw [c, List.concat_eq_append])
    obtain ⟨z2, d1, d2, d3⟩ := CV.2 _ _ ek (fun i hi ne => o2 i hi ne (phi x) (List.mem_map_of_mem xm)) nd.1 (x, 0, sT U.2.2.2.1 T, 0, false)
    have lt : LTm E (ty ((fr (nf - 1)).2.2.1.2 ((fr (nf - 1)).2.2.1.1 - 1)).1) (setC (H ((fr (nf - 1)).2.2.1.2 ((fr (nf - 1)).2.2.1.1 - 1)).1) ks) (ks.map ty) := by
      rw [a5]
      refine .inr (.inr (.inr (.inr (.inr (.inr (.inr ⟨by omega, v1, v2, v3, fun w hw => ?_, ?_⟩))))))
      · rw [Nat.add_sub_cancel_left]
        obtain ⟨y, y1, y2⟩ := List.mem_map.mp hw
        rw [← y2]; exact v4 y (by rw [c]; simp [y1])
      · rw [c] at v5; simp at v5 ⊢; omega
    have sole : ∀ s, s.2.1 ≠ 0 → ((∃ k, k < (fr (nf - 1)).2.2.1.1 ∧ k ≠ (fr (nf - 1)).2.2.1.1 - 1 ∧ (fr (nf - 1)).2.2.1.2 k = s) ∨ ∃ k, (fr (nf - 1)).2.1 k = some s) → mt s.2.2.2.1 ((fr (nf - 1)).2.2.1.2 ((fr (nf - 1)).2.2.1.1 - 1)).2.2.2.1 → s.2.1 = 9 ∧ s.2.2.2.2 = false := fun s hs hq hm => by
      refine (fm.drop 1).sole hso hs ?_ (by rw [← a11]; exact hm)
      rcases hq with ⟨k, k1, k2, k3⟩ | w
      · exact .inl ⟨k, by show k < (fr (nf - 1)).2.2.1.1 - 1; omega, k3⟩
      · exact .inr w
    have mj := h.1.rem hE (by omega) a1 (by rw [c, List.concat_eq_append]) lt sole
    rw [xt] at mj
    have rc := h.2.2.2.2.1.parts (cs := ks) h.ht a4 (by omega) (by omega)
    have sm : SMt U.2.2.2.1 (x, 0, sT U.2.2.2.1 T, 0, false) (T, 0, false) := ⟨(sR_p e1).symm, rfl, fun q => absurd (e1.hd.2.symm.trans q) (by decide)⟩
    have h' := h
    obtain ⟨I, _, cm0, cj, r, sr, an, na2, rn, rm1, rm2⟩ := h
    refine ⟨z1, z2, q1, d1, q3, d3.x, .inr ⟨_, m, ty, _, na, ak, g, _, mc, phi, Rn, _, cl, cn, ⟨mj, q2, d2, cj.fc d3, rc, ?_, an, na2.set a4, rn, by omega, by omega⟩, AkL.same (by omega), rfl, rfl, rfl, (fm.drop 1).psh hp sm (.inl e1)⟩⟩
    exact sr.psh h'.nf0 (by omega) (fun x d k t c w _ _ => sr.1 _ _ _ _ _ w) ⟨fun _ => rfl, fun q => absurd rfl q⟩ (fun q => absurd rfl q)
end
