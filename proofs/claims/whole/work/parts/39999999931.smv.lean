/-! BOTH MACHINES SIDE BY SIDE: module 0's functions -/
def coTy (ty : Nat → Nat) (m : Nat) : Nat → Nat := fun i => if i = m then 256 else if i = m + 1 then 11 else ty i
def coH (H : Hp) (m : Nat) (v : Int64) : Hp := upH (upH H m (6, 0, 0, [m + 1])) (m + 1) (3, 0, v, [])
section
variable {E : Ev} {F n : Nat} {sh : Nat → Nat × Nat} {pk : Nat → Nat} {kt : Nat} {sl0 : Int32} {lim e : Nat} {zr zc zr' zc' : St} {H : Hp} {m : Nat} {ty : Nat → Nat} {fr : Nat → Fm} {nf na : Nat} {ak : Nat → Ask} {g g' : Nat} {Hc : Hp} {mc : Nat} {phi : Nat → Nat} {Rn : Nat → Option Nat} {cs cl : Nat → Nat → Nat} {cn : Nat → Nat} {ws : Nat → Int64 → Nat → Bool} {u : Nat} {U : Md} {ls : List Ty} {L L' : Lks} {R C : Option (St × Unit)}
variable {SF : Nat → List Nat} {sd : Int64} {nc nr nrc : Nat} {ac acC : Nat → Int64 × Int64 × Int64} {rs : Nat → Int64 × Nat × Hp × Nat} {so : Nat → Option Rsc}
theorem Sm.nw (h : Sm E sh n pk kt sl0 lim e zr zc H m ty fr nf na ak g Hc mc phi Rn cs cl cn ws) : Nw H m := ⟨h.pu, fun i c hc => (h.ht.al hc).2, fun i hi => h.ht.1 i (by
  by_cases q : (H i).1 = 0
  · exact q
  · have := (h.ht.2 i q).1; omega)⟩
/-- a coin on both sides -/
theorem Sm.coin (h : Sm E sh n pk kt sl0 lim e zr zc H m ty fr nf na ak g Hc mc phi Rn cs cl cn ws) {v : Nat} (hv : (H v).1 ≠ 0) (t : ty v = 256) : ∃ c, kds H v = [c] ∧ (H v).1 = 6 ∧ (Hc (phi v)).1 = 10 ∧ (Hc (phi v)).2.2.1 = (H c).2.2.1 := by
  obtain ⟨c, k1, k2, k3, k4, k5, k6, k7, k8⟩ := coin_kid h.ht hv t
  rcases h.2.2.2.2.1.1 v hv (by omega) with ⟨_, c2, _, ⟨c', c4, c5⟩, _⟩ | ⟨c1, _⟩
  · rw [k1] at c4
    have : c = c' := by simpa using c4
    subst this
    exact ⟨c, k1, k6, c2, c5⟩
  · exact absurd t c1
/-- a new coin, semantically -/
theorem MJ0.coin (I : MJ0 E H m ty fr nf na ak (fun _ => none)) (hE : EvOk E) (hC : E.2.1 256 ≤ 38 ∧ E.2.1 11 ≤ 38) (c : Nat) (v : Int64) : MJ0 E (coH H m v) (m + 2) (coTy ty m) (setF fr (nf - 1) (pshV (setH (fr (nf - 1)) ((fr (nf - 1)).2.2.1.1 - c)) (m, 0, 256, 0, false))) nf na ak (fun _ => none) := by
  have dd : ∀ i, m ≤ i → H i = (0, 0, 0, []) := fun i hi => I.2.1.1 i (by
    by_cases q : (H i).1 = 0
    · exact q
    · have := (I.2.1.2 i q).1; omega)
  have hm : coH H m v m = (6, 0, 0, [m + 1]) := by unfold coH; rw [upH_n (by omega), upH_s]
  have hm1 : coH H m v (m + 1) = (3, 0, v, []) := upH_s _ _ _
  have ho : ∀ i, i ≠ m → i ≠ m + 1 → coH H m v i = H i := fun i a b => by unfold coH; rw [upH_n b, upH_n a]
  have J := (I.drp c).fresh hE (H' := coH H m v) (m' := m + 2) (ty' := coTy ty m) (by omega) (fun w hw => ⟨ho w (by omega) (by omega), by unfold coTy; rw [if_neg (by omega), if_neg (by omega)]⟩) (fun w hw => by rw [ho w (by omega) (by omega)]; exact dd w (by omega)) (fun i i1 i2 => by
    have : i = m ∨ i = m + 1 := by omega
    rcases this with e | e
    · subst e
      have k : kds (coH H i v) i = [i + 1] := by unfold kds; rw [hm]
      rw [hm, k]
      have t0 : coTy ty i i = 256 := by unfold coTy; rw [if_pos rfl]
      have t1 : coTy ty i (i + 1) = 11 := by unfold coTy; rw [if_neg (by omega), if_pos rfl]
      rw [t0]
      refine ⟨by simp, .inr (.inr (.inr (.inr (.inr (.inl ⟨rfl, rfl, rfl, rfl, by rw [List.map_cons, t1]; rfl⟩))))), by simp, hC.1, fun x hx => by have := List.mem_singleton.mp hx; omega, fun j j1 j2 x hx hx' => ?_⟩
      have : j = i ∨ j = i + 1 := by omega
      rcases this with w | w
      · exact w
      · subst w
        have k1 : kds (coH H i v) (i + 1) = [] := by unfold kds; rw [hm1]
        rw [k1] at hx'; exact absurd hx' (by simp)
    · subst e
      have k : kds (coH H m v) (m + 1) = [] := by unfold kds; rw [hm1]
      rw [hm1, k]
      have t1 : coTy ty m (m + 1) = 11 := by unfold coTy; rw [if_neg (by omega), if_pos rfl]
      rw [t1]
      exact ⟨by simp, .inr (.inr (.inr (.inr (.inl ⟨rfl, rfl, rfl, rfl⟩)))), by simp, hC.2, fun x hx => absurd hx (by simp), fun j _ _ x hx => absurd hx (by simp)⟩) rfl
  have := J.psh (s := (m, 0, 256, 0, false)) rfl rfl (by show coTy ty m m = 256; unfold coTy; rw [if_pos rfl])
  rw [setF_s, setF_2] at this
  exact this
theorem coH_m {v : Int64} : coH H m v m = (6, 0, 0, [m + 1]) := by unfold coH; rw [upH_n (by omega), upH_s]
theorem coH_1 {v : Int64} : coH H m v (m + 1) = (3, 0, v, []) := upH_s _ _ _
theorem coH_o {v : Int64} {i : Nat} (a : i ≠ m) (b : i ≠ m + 1) : coH H m v i = H i := by unfold coH; rw [upH_n b, upH_n a]
theorem coTy_o {i : Nat} (a : i ≠ m) (b : i ≠ m + 1) : coTy ty m i = ty i := by unfold coTy; rw [if_neg a, if_neg b]
/-- c slots go, a coin comes: coins A were there -/
theorem MJ.coinG (I : MJ E H m ty fr nf na ak (fun _ => none)) {c : Nat} {v : Int64} {ak' : Nat → Ask} (J : MJ0 E (coH H m v) (m + 2) (coTy ty m) (setF fr (nf - 1) (pshV (setH (fr (nf - 1)) ((fr (nf - 1)).2.2.1.1 - c)) (m, 0, 256, 0, false))) nf na ak' (fun _ => none)) (hr : ∀ k, k < na → (ak' k).1 = 3 → (ak' k).2.2.2.2.1 = true → ak' k = ak k) (A : List Nat) (hA : A.Nodup) (hA2 : ∀ v, v ∈ A → ty v = 11 ∧ Liv H (LvA fr nf na ak (fun _ => none)) v ∧ ¬ Liv H (LvA (setF fr (nf - 1) (setH (fr (nf - 1)) ((fr (nf - 1)).2.2.1.1 - c))) nf na ak (fun _ => none)) v) (hb : N v + bS ak' na + lS E ak na ≤ smL (am H) A + bS ak na + lS E ak' na) (hac : AcOk E na ak') : MJ E (coH H m v) (m + 2) (coTy ty m) (setF fr (nf - 1) (pshV (setH (fr (nf - 1)) ((fr (nf - 1)).2.2.1.1 - c)) (m, 0, 256, 0, false))) nf na ak' (fun _ => none) := by
  refine I.newC (c := c) J (fun w hw => ⟨coH_o (by omega) (by omega), coTy_o (by omega) (by omega)⟩) (fun i x hi hx => ?_) (fun a d k X q => ?_) A [m + 1] hA hA2 (fun w w1 w2 w3 => ?_) ?_ hac
  · by_cases c1 : i = m
    · subst c1; rw [kds, coH_m] at hx; have := List.mem_singleton.mp hx; omega
    · by_cases c2 : i = m + 1
      · subst c2; rw [kds, coH_1] at hx; exact absurd hx (by simp)
      · rw [kds, coH_o c1 c2, I.dead hi] at hx; exact absurd hx (by simp)
  · exact lv_psh hr q
  · have : w = m ∨ w = m + 1 := by omega
    rcases this with e | e
    · subst e; unfold coTy at w3; rw [if_pos rfl] at w3; omega
    · rw [e]; simp
  · have e : smL (am (coH H m v)) [m + 1] = N v := by
      show am (coH H m v) (m + 1) + 0 = _
      unfold am; rw [coH_1]; rfl
    rw [e]; exact hb
theorem u_sub {a b : Int64} (h : ult a b = false) : N (a - b) + N b = N a := by
  have h1 := ult_N.2.mp h
  have e : (a - b).toBitVec = a.toBitVec - b.toBitVec := Int64.toBitVec_sub ..
  unfold N at h1 ⊢
  rw [e, BitVec.toNat_sub_of_le (BitVec.le_def.mpr (by omega))]
  omega
theorem u_add (a b : Int64) : N (a + b) ≤ N a + N b := by
  have e : (a + b).toBitVec = a.toBitVec + b.toBitVec := Int64.toBitVec_add ..
  unfold N
  rw [e, BitVec.toNat_add]
  exact Nat.mod_le _ _
/-- coins are drawn from the sender's account -/
theorem MJ.draw (I : MJ E H m ty fr nf na ak (fun _ => none)) (hE : EvOk E) (hC : E.2.1 256 ≤ 38 ∧ E.2.1 11 ≤ 38) (h0 : 0 < na) (h1 : (ak 0).1 = 1) {v : Int64} {c : Nat} (hc : c ≤ (fr (nf - 1)).2.2.1.1) (q : ult (ak 0).2.2.2.1 v = false) : MJ E (coH H m v) (m + 2) (coTy ty m) (setF fr (nf - 1) (pshV (setH (fr (nf - 1)) ((fr (nf - 1)).2.2.1.1 - c)) (m, 0, 256, 0, false))) nf na (upA ak 0 ((ak 0).1, (ak 0).2.1, (ak 0).2.2.1, (ak 0).2.2.2.1 - v, (ak 0).2.2.2.2.1, (ak 0).2.2.2.2.2)) (fun _ => none) := by
  have J := (I.m0.coin hE hC c v).bal h0 (by omega) ((ak 0).1, (ak 0).2.1, (ak 0).2.2.1, (ak 0).2.2.2.1 - v, (ak 0).2.2.2.2.1, (ak 0).2.2.2.2.2) rfl rfl
  refine I.coinG J (fun k _ k1 _ => ?_) [] (by simp) (fun v hv => absurd hv (by simp)) ?_ (I.cp.2.up (fun _ w => I.cp.2 0 h0 h1 w))
  · by_cases y : k = 0
    · subst y; rw [upA_s] at k1; have k1' : (ak 0).1 = 3 := k1; omega
    · rw [upA_n y]
  · have e1 := bS_up (ak := ak) (x := ((ak 0).1, (ak 0).2.1, (ak 0).2.2.1, (ak 0).2.2.2.1 - v, (ak 0).2.2.2.2.1, (ak 0).2.2.2.2.2)) h0
    have e2 := lS_up (E := E) (ak := ak) (x := ((ak 0).1, (ak 0).2.1, (ak 0).2.2.1, (ak 0).2.2.2.1 - v, (ak 0).2.2.2.2.1, (ak 0).2.2.2.2.2)) h0
    have e3 : ldA E ((ak 0).1, (ak 0).2.1, (ak 0).2.2.1, (ak 0).2.2.2.1 - v, (ak 0).2.2.2.2.1, (ak 0).2.2.2.2.2) = ldA E (ak 0) := rfl
    have e4 : ubA (ak 0) = N ((ak 0).2.2.2.1) := by unfold ubA; rw [if_pos h1]
    have e5 : ubA ((ak 0).1, (ak 0).2.1, (ak 0).2.2.1, (ak 0).2.2.2.1 - v, (ak 0).2.2.2.2.1, (ak 0).2.2.2.2.2) = N (((ak 0).2.2.2.1 - v)) := by unfold ubA; rw [if_pos h1]
    have e6 := u_sub q
    simp only [smL]
    omega
/-- two coins become one -/
theorem MJ.joinC (I : MJ E H m ty fr nf na ak (fun _ => none)) (hE : EvOk E) (hC : E.2.1 256 ≤ 38 ∧ E.2.1 11 ≤ 38) (h2 : 2 ≤ (fr (nf - 1)).2.2.1.1) (b0 : ((fr (nf - 1)).2.2.1.2 ((fr (nf - 1)).2.2.1.1 - 1)).2.1 = 0) (a0 : ((fr (nf - 1)).2.2.1.2 ((fr (nf - 1)).2.2.1.1 - 2)).2.1 = 0) (tb : ty ((fr (nf - 1)).2.2.1.2 ((fr (nf - 1)).2.2.1.1 - 1)).1 = 256) (ta : ty ((fr (nf - 1)).2.2.1.2 ((fr (nf - 1)).2.2.1.1 - 2)).1 = 256) {ca cb : Nat} (kb : kds H ((fr (nf - 1)).2.2.1.2 ((fr (nf - 1)).2.2.1.1 - 1)).1 = [cb]) (ka : kds H ((fr (nf - 1)).2.2.1.2 ((fr (nf - 1)).2.2.1.1 - 2)).1 = [ca]) : MJ E (coH H m ((H ca).2.2.1 + (H cb).2.2.1)) (m + 2) (coTy ty m) (setF fr (nf - 1) (pshV (setH (fr (nf - 1)) ((fr (nf - 1)).2.2.1.1 - 2)) (m, 0, 256, 0, false))) nf na ak (fun _ => none) := by
  have J := I.m0.coin hE hC 2 ((H ca).2.2.1 + (H cb).2.2.1)
  have sb : cb ∈ kds H ((fr (nf - 1)).2.2.1.2 ((fr (nf - 1)).2.2.1.1 - 1)).1 := by rw [kb]; simp
  have sa : ca ∈ kds H ((fr (nf - 1)).2.2.1.2 ((fr (nf - 1)).2.2.1.1 - 2)).1 := by rw [ka]; simp
  have gb := I.m0.gone (c := 2) (j := (fr (nf - 1)).2.2.1.1 - 1) (by omega) (by omega) b0 (Sub.one sb)
  have ga := I.m0.gone (c := 2) (j := (fr (nf - 1)).2.2.1.1 - 2) (by omega) (by omega) a0 (Sub.one sa)
  refine I.coinG J (fun k _ _ _ => rfl) [ca, cb] ?_ (fun v hv => ?_) ?_ I.cp.2
  · rw [List.nodup_cons]
    refine ⟨fun q => ?_, by simp⟩
    rw [List.mem_singleton.mp q] at sa
    have e := I.1.1.1 _ _ _ sa sb
    have l1 : LvA fr nf na ak (fun _ => none) 0 (nf - 1) ((fr (nf - 1)).2.2.1.1 - 1) = some ((fr (nf - 1)).2.2.1.2 ((fr (nf - 1)).2.2.1.1 - 1)).1 := by rw [I.at0 (by omega), pln0 b0]
    have l2 : LvA fr nf na ak (fun _ => none) 0 (nf - 1) ((fr (nf - 1)).2.2.1.1 - 2) = some ((fr (nf - 1)).2.2.1.2 ((fr (nf - 1)).2.2.1.1 - 1)).1 := by rw [I.at0 (by omega), pln0 a0, e]
    have := (I.1.2.2.1 _ _ _ _ _ _ _ l1 l2).2.2
    omega
  · rcases List.mem_cons.mp hv with q | q
    · subst q; exact ⟨I.m0.amt (I.2.1.al sa).1 ta ka, ga.1, ga.2⟩
    · have := List.mem_singleton.mp q
      subst this; exact ⟨I.m0.amt (I.2.1.al sb).1 tb kb, gb.1, gb.2⟩
  · have e : smL (am H) [ca, cb] = N ((H ca).2.2.1) + (N ((H cb).2.2.1) + 0) := rfl
    have := u_add (H ca).2.2.1 (H cb).2.2.1
    omega
/-- a coin becomes two -/
theorem MJ.split (I : MJ E H m ty fr nf na ak (fun _ => none)) (hE : EvOk E) (hC : E.2.1 256 ≤ 38 ∧ E.2.1 11 ≤ 38) {va vb : Int64} (h2 : 2 ≤ (fr (nf - 1)).2.2.1.1) (a0 : ((fr (nf - 1)).2.2.1.2 ((fr (nf - 1)).2.2.1.1 - 2)).2.1 = 0) (ta : ty ((fr (nf - 1)).2.2.1.2 ((fr (nf - 1)).2.2.1.1 - 2)).1 = 256) {ca : Nat} (ka : kds H ((fr (nf - 1)).2.2.1.2 ((fr (nf - 1)).2.2.1.1 - 2)).1 = [ca]) (ea : (H ca).2.2.1 = va) (q : ult va vb = false) (J : MJ0 E (coH (coH H m (va - vb)) (m + 2) vb) (m + 2 + 2) (coTy (coTy ty m) (m + 2)) (setF fr (nf - 1) (pshV (setH (pshV (setH (fr (nf - 1)) ((fr (nf - 1)).2.2.1.1 - 2)) (m, 0, 256, 0, false)) ((pshV (setH (fr (nf - 1)) ((fr (nf - 1)).2.2.1.1 - 2)) (m, 0, 256, 0, false)).2.2.1.1 - 0)) (m + 2, 0, 256, 0, false))) nf na ak (fun _ => none)) : MJ E (coH (coH H m (va - vb)) (m + 2) vb) (m + 2 + 2) (coTy (coTy ty m) (m + 2)) (setF fr (nf - 1) (pshV (setH (pshV (setH (fr (nf - 1)) ((fr (nf - 1)).2.2.1.1 - 2)) (m, 0, 256, 0, false)) ((pshV (setH (fr (nf - 1)) ((fr (nf - 1)).2.2.1.1 - 2)) (m, 0, 256, 0, false)).2.2.1.1 - 0)) (m + 2, 0, 256, 0, false))) nf na ak (fun _ => none) := by
  have sa : ca ∈ kds H ((fr (nf - 1)).2.2.1.2 ((fr (nf - 1)).2.2.1.1 - 2)).1 := by rw [ka]; simp
  have ga := I.m0.gone (c := 2) (j := (fr (nf - 1)).2.2.1.1 - 2) (by omega) (by omega) a0 (Sub.one sa)
  refine I.newC (c := 2) J (fun w hw => ⟨by rw [coH_o (by omega) (by omega), coH_o (by omega) (by omega)], by rw [coTy_o (by omega) (by omega), coTy_o (by omega) (by omega)]⟩) (fun i x hi hx => ?_) (fun a d k X q => ?_) [ca] [m + 1, m + 3] (by simp) (fun v hv => ?_) (fun w w1 w2 w3 => ?_) ?_ I.cp.2
  · by_cases c1 : i = m + 2
    · subst c1; rw [kds, coH_m] at hx; have := List.mem_singleton.mp hx; omega
    · by_cases c2 : i = m + 2 + 1
      · subst c2; rw [kds, coH_1] at hx; exact absurd hx (by simp)
      · rw [kds, coH_o c1 c2] at hx
        by_cases c3 : i = m
        · subst c3; rw [coH_m] at hx; have := List.mem_singleton.mp hx; omega
        · by_cases c4 : i = m + 1
          · subst c4; rw [coH_1] at hx; exact absurd hx (by simp)
          · rw [coH_o c3 c4, I.dead hi] at hx; exact absurd hx (by simp)
  · exact lv_psh2 (s := (m, 0, 256, 0, false)) (s' := (m + 2, 0, 256, 0, false)) (b := m) (Nat.le_refl _) (by show m ≤ m + 2; omega) q
  · have := List.mem_singleton.mp hv
    subst this; exact ⟨I.m0.amt (I.2.1.al sa).1 ta ka, ga.1, ga.2⟩
  · have : w = m ∨ w = m + 1 ∨ w = m + 2 ∨ w = m + 3 := by omega
    rcases this with e | e | e | e
    · subst e; rw [coTy_o (by omega) (by omega)] at w3; unfold coTy at w3; rw [if_pos rfl] at w3; omega
    · rw [e]; simp
    · rw [e] at w3; unfold coTy at w3; rw [if_pos rfl] at w3; omega
    · rw [e]; simp
  · have e : smL (am (coH (coH H m (va - vb)) (m + 2) vb)) [m + 1, m + 3] = N ((va - vb)) + N vb := by
      show am (coH (coH H m (va - vb)) (m + 2) vb) (m + 1) + (am (coH (coH H m (va - vb)) (m + 2) vb) (m + 2 + 1) + 0) = _
      unfold am; rw [coH_1, coH_o (by omega) (by omega), coH_1]; rfl
    have e2 : smL (am H) [ca] = N va := by
      show am H ca + 0 = _
      unfold am; rw [ea]; rfl
    have := u_sub q
    omega
/-- a coin goes into an account -/
theorem MJ.dep (I : MJ E H m ty fr nf na ak (fun _ => none)) {j : Nat} (hj : j < na) (h1 : (ak j).1 = 1) (h2 : 2 ≤ (fr (nf - 1)).2.2.1.1) (b0 : ((fr (nf - 1)).2.2.1.2 ((fr (nf - 1)).2.2.1.1 - 1)).2.1 = 0) (hb : (H ((fr (nf - 1)).2.2.1.2 ((fr (nf - 1)).2.2.1.1 - 1)).1).1 ≠ 0) (tb : ty ((fr (nf - 1)).2.2.1.2 ((fr (nf - 1)).2.2.1.1 - 1)).1 = 256) {cb : Nat} (kb : kds H ((fr (nf - 1)).2.2.1.2 ((fr (nf - 1)).2.2.1.1 - 1)).1 = [cb]) : MJ E H m ty (setF fr (nf - 1) (setH (fr (nf - 1)) ((fr (nf - 1)).2.2.1.1 - 2))) nf na (upA ak j ((ak j).1, (ak j).2.1, (ak j).2.2.1, (ak j).2.2.2.1 + (H cb).2.2.1, true, (ak j).2.2.2.2.2)) (fun _ => none) := by
  have J := (I.m0.drp 2).bal hj (by omega) ((ak j).1, (ak j).2.1, (ak j).2.2.1, (ak j).2.2.2.1 + (H cb).2.2.1, true, (ak j).2.2.2.2.2) rfl rfl
  have sb : cb ∈ kds H ((fr (nf - 1)).2.2.1.2 ((fr (nf - 1)).2.2.1.1 - 1)).1 := by rw [kb]; simp
  have gb := I.m0.gone (c := 2) (j := (fr (nf - 1)).2.2.1.1 - 1) (by omega) (by omega) b0 (Sub.one sb)
  refine I.newC (c := 2) J (fun w hw => ⟨rfl, rfl⟩) (fun i x hi hx => ?_) (fun a d k X q => .inr ?_) [cb] [] (by simp) (fun v hv => ?_) (fun w w1 w2 w3 => by omega) ?_ (I.cp.2.up (fun _ _ => rfl))
  · rw [kds, I.dead hi] at hx; exact absurd hx (by simp)
  · rw [← q]
    by_cases c2 : a = 2
    · subst c2
      rw [lv2, lv2]
      by_cases ck : k = j
      · subst ck
        rw [upA_s, if_neg (fun w => by have := w.2.2.1; omega), if_neg (fun w => by have w' : (ak k).1 = 3 := w.2.2.1; omega)]
      · rw [upA_n ck]
    · unfold LvA
      split
      · rfl
      · split
        · rfl
        · simp only [if_neg c2]
  · have := List.mem_singleton.mp hv
    subst this; exact ⟨I.m0.amt hb tb kb, gb.1, gb.2⟩
  · have e1 := bS_up (ak := ak) (x := ((ak j).1, (ak j).2.1, (ak j).2.2.1, (ak j).2.2.2.1 + (H cb).2.2.1, true, (ak j).2.2.2.2.2)) hj
    have e2 := lS_up (E := E) (ak := ak) (x := ((ak j).1, (ak j).2.1, (ak j).2.2.1, (ak j).2.2.2.1 + (H cb).2.2.1, true, (ak j).2.2.2.2.2)) hj
    have e3 : ldA E ((ak j).1, (ak j).2.1, (ak j).2.2.1, (ak j).2.2.2.1 + (H cb).2.2.1, true, (ak j).2.2.2.2.2) = ldA E (ak j) := rfl
    have e4 : ubA (ak j) = N ((ak j).2.2.2.1) := by unfold ubA; rw [if_pos h1]
    have e5 : ubA ((ak j).1, (ak j).2.1, (ak j).2.2.1, (ak j).2.2.2.1 + (H cb).2.2.1, true, (ak j).2.2.2.2.2) = N (((ak j).2.2.2.1 + (H cb).2.2.1)) := by unfold ubA; rw [if_pos h1]
    have e6 := u_add (ak j).2.2.2.1 (H cb).2.2.1
    have e7 : smL (am H) [cb] = N ((H cb).2.2.1) := rfl
    simp only [smL] at e7 ⊢
    omega
theorem NoA.coin (h : NoA ty H) {v : Int64} : NoA (coTy ty m) (coH H m v) := fun w hw => by
  unfold coTy
  by_cases c : w = m
  · rw [if_pos c]; omega
  · rw [if_neg c]
    by_cases d : w = m + 1
    · rw [if_pos d]; omega
    · rw [if_neg d]
      unfold coH at hw
      rw [upH_n d, upH_n c] at hw
      exact h w hw
/-- c are taken, a new coin is given -/
theorem Out.coin (h : Sm E sh n pk kt sl0 lim 1 zr zc H m ty fr nf na ak g Hc mc phi Rn cs cl cn ws) (hE : EvOk E) (hC : E.2.1 256 ≤ 38 ∧ E.2.1 11 ≤ 38) (fm : FM U ls (fr (nf - 1)) L) {c k : Nat} {v : Int64} {ak' : Nat → Ask} (hc : c ≤ L.1.1) (mjb : MJ E (coH H m v) (m + 2) (coTy ty m) (setF fr (nf - 1) (pshV (setH (fr (nf - 1)) ((fr (nf - 1)).2.2.1.1 - c)) (m, 0, 256, 0, false))) nf na ak' (fun _ => none)) (hak : ∀ j, j < na → (ak' j).1 = 3 → (ak' j).2.2.2.2.1 = true → ak' j = ak j) (hg : g + 5 ≤ g') (pt : PT U.1.2.2 [6, k]) (hid : U.2.2.2.1 k = 0) (hp : lPush ([6, k], 0, false) ((L.1.1 - c, L.1.2), L.2) = .ok L') (er : R = some (zr', ())) (ec : C = some (zc', ())) (rm : RM sh n zr' (coH H m v) (m + 2) (setF fr (nf - 1) (pshV (setH (fr (nf - 1)) ((fr (nf - 1)).2.2.1.1 - c)) (m, 0, 256, 0, false))) nf na ak' g' lim) (cm : CM sh n zc' pk kt (upH Hc mc (10, 0, v, [])) (mc + 1) sl0 (setF fr (nf - 1) (pshV (setH (fr (nf - 1)) ((fr (nf - 1)).2.2.1.1 - c)) (m, 0, 256, 0, false))) (up2 cs (nf - 1) ((fr (nf - 1)).2.2.1.1 - c) mc) cl nf g' lim) (cj : CJ zc' na ak' cn ws) (f1 : FrR zr zr') (f2 : FrX zc zc') (hl : AkL na ak g na ak' g') : Out E sh n pk kt sl0 lim zr zc fr nf na ak g ws U ls L' (fun i => i = (fr (nf - 1)).1.2.2) R C := by
  have b1 := h.2.2.2.2.2.2.2.2.2.1
  have b2 := h.2.2.2.2.2.2.2.2.2.2
  exact Out.blk h fm hc mjb (h.2.2.2.2.1.coin h.ht h.hcu h.2.2.2.2.2.2.2.2.1) (fun i hi => by rw [if_neg (by omega)]) (by rw [if_pos rfl]) h.2.2.2.2.2.2.2.1.coin (by omega) (by omega) (by omega) hak pt (by rw [sT_s, hid]) hp er ec rm cm cj f1 f2 hl
/-- 0 -/
theorem sim_c0 (hF : 300 ≤ F) (h : Sm E sh n pk kt sl0 lim 1 zr zc H m ty fr nf na ak g Hc mc phi Rn cs cl cn ws) (hE : EvOk E) (hC : E.2.1 256 ≤ 38 ∧ E.2.1 11 ≤ 38) (fm : FM U ls (fr (nf - 1)) L) (h0 : 0 < na ∧ (ak 0).1 = 1) {k : Nat} (h1 : 1 ≤ L.1.1) (t1 : (L.1.2 (L.1.1 - 1)).1 = [3]) (pt : PT U.1.2.2 [6, k]) (hid : U.2.2.2.1 k = 0) (hp : lPush ([6, k], 0, false) ((L.1.1 - 1, L.1.2), L.2) = .ok L') : Out E sh n pk kt sl0 lim zr zc fr nf na ak g ws U ls L' (fun i => i = (fr (nf - 1)).1.2.2) (fn_X18_coin F sh n zr 337 0) (fn_X4_useCoin F sh n zc 87 0) := by
  obtain ⟨rr1, rr2⟩ := h.rooms
  have hh := fm.1
  obtain ⟨b0, b1, pb1, pb2, pb3, pb4, pb5⟩ := h.top fm (i := 1) (by omega) (by omega) (by omega) (by omega) t1
  have RV := h.2.1.coin0 (F := F) hF h.nw h0.1 (by omega) (by omega) h.h64 rfl b0 pb1 (by omega) 256
  have CV := h.2.2.1.coin0 (F := F) h.2.2.2.1 h0.1 h0.2 (by omega) b1 pb2 (by omega) (m, 0, 256, 0, false)
  rw [pb4] at CV
  by_cases c : g + 5 ≤ lim
  · have RV2 := RV.2 c
    have CV2 := CV.2 c
    cases q : ult (ak 0).2.2.2.1 (H ((fr (nf - 1)).2.2.1.2 ((fr (nf - 1)).2.2.1.1 - 1)).1).2.2.1
    · obtain ⟨z1, w1, w2, w3⟩ := RV2.2 q
      obtain ⟨z2, d1, d2, d3, d4⟩ := CV2.2 q
      refine Out.coin h hE hC fm (c := 1) h1 (h.1.draw hE hC h0.1 h0.2 (by omega) q) (fun j hj h3 ht => ?_) (Nat.le_refl _) pt hid hp w1 d1 w2 d2 d3 w3 d4 ((AkL.same (Nat.le_refl g)).up (by omega) rfl rfl rfl)
      by_cases y : j = 0
      · subst y; rw [upA_s] at h3; have := h0.2; omega
      · rw [upA_n y]
    · obtain ⟨z1, w1, w2, w3⟩ := RV2.1 q
      obtain ⟨z2, d1, d2, d3⟩ := CV2.1 q
      exact Out.end 1 1 (g + 5) (.inl rfl) w1 d1 w2 d2 w3 d3.x
  · obtain ⟨z1, w1, w2, w3⟩ := RV.1 (by omega)
    obtain ⟨z2, d1, d2, d3⟩ := CV.1 (by omega)
    exact Out.end 2 5 lim (.inr rfl) w1 d1 w2 d2 w3 d3.x
/-- 2 -/
theorem sim_c2 (h : Sm E sh n pk kt sl0 lim 1 zr zc H m ty fr nf na ak g Hc mc phi Rn cs cl cn ws) (hE : EvOk E) (hU : UOk E u U) (fm : FM U ls (fr (nf - 1)) L) {k r : Nat} (h1 : 1 ≤ L.1.1) (hr : r = 8 ∨ r = 9) (t1 : (L.1.2 (L.1.1 - 1)).1 = r :: [6, k]) (pt : PT U.1.2.2 [6, k]) (hid : U.2.2.2.1 k = 0) (hp : lPush ([3], 0, false) ((L.1.1 - 1, L.1.2), L.2) = .ok L') : Out E sh n pk kt sl0 lim zr zc fr nf na ak g ws U ls L' (fun i => i = (fr (nf - 1)).1.2.2) (fn_X18_coin F sh n zr 337 2) (fn_X4_useCoin F sh n zc 87 2) := by
  obtain ⟨rr1, rr2⟩ := h.rooms
  have hh := fm.1
  obtain ⟨a1, a2, a3, a4, a5, a6, a7, a8, a9, a10, _⟩ := h.rft fm (i := 1) (by omega) h1 hr t1 pt
  rw [sT_s, hid] at a5
  obtain ⟨c0, k1, k2, k3, k4⟩ := h.coin a4 a5
  have RV := h.2.1.coin2 (F := F) (by omega) h.h64 rfl a2 a4 k1 (by omega)
  have CV := h.2.2.1.coin2 (F := F) (by omega) rfl (by rw [a6]) (by rw [a6]) a8 a9 k3 (by omega) (m, 0, 3, 0, false)
  rw [k4] at CV
  by_cases c : g + 5 ≤ lim
  · obtain ⟨z1, w1, w2, w3⟩ := RV.2 c
    obtain ⟨z2, d1, d2, d3⟩ := CV.2 c
    exact Out.num h hE hU fm (c := 1) h1 (by omega) (by omega) (.inr (.inr (.inl ⟨.inl rfl, rfl, rfl, rfl⟩))) hp (by omega) w1 d1 w2 d2 w3 d3.d
  · obtain ⟨z1, w1, w2, w3⟩ := RV.1 (by omega)
    obtain ⟨z2, d1, d2, d3⟩ := CV.1 (by omega)
    exact Out.end 2 5 lim (.inr rfl) w1 d1 w2 d2 w3 d3.x
/-- a coin that lies on the stack -/
theorem Sm.coinS (h : Sm E sh n pk kt sl0 lim e zr zc H m ty fr nf na ak g Hc mc phi Rn cs cl cn ws) (fm : FM U ls (fr (nf - 1)) L) {i k : Nat} (hi : 1 ≤ i) (hi2 : i ≤ L.1.1) (t : (L.1.2 (L.1.1 - i)).1 = [6, k]) (pt : PT U.1.2.2 [6, k]) (hid : U.2.2.2.1 k = 0) : ((fr (nf - 1)).2.2.1.2 ((fr (nf - 1)).2.2.1.1 - i)).2.1 = 0 ∧ cs (nf - 1) ((fr (nf - 1)).2.2.1.1 - i) = phi ((fr (nf - 1)).2.2.1.2 ((fr (nf - 1)).2.2.1.1 - i)).1 ∧ (H ((fr (nf - 1)).2.2.1.2 ((fr (nf - 1)).2.2.1.1 - i)).1).1 = 6 ∧ (Hc (phi ((fr (nf - 1)).2.2.1.2 ((fr (nf - 1)).2.2.1.1 - i)).1)).1 = 10 ∧ ∃ c, kds H ((fr (nf - 1)).2.2.1.2 ((fr (nf - 1)).2.2.1.1 - i)).1 = [c] ∧ (Hc (phi ((fr (nf - 1)).2.2.1.2 ((fr (nf - 1)).2.2.1.1 - i)).1)).2.2.1 = (H c).2.2.1 := by
  have hh := fm.1
  have s1 := fm.2.2.1 (L.1.1 - i) (by omega)
  obtain ⟨b0, b1, b2, b3, b4⟩ := h.pl (k := (fr (nf - 1)).2.2.1.1 - i) (by omega) (by rw [hh]; exact s1.1) (by rw [t]; exact pt)
  rw [t, sT_s, hid] at b3
  obtain ⟨c0, k1, k2, k3, k4⟩ := h.coin b2 b3
  exact ⟨b0, b1, k2, k3, c0, k1, k4⟩
theorem Sm.coinT (h : Sm E sh n pk kt sl0 lim e zr zc H m ty fr nf na ak g Hc mc phi Rn cs cl cn ws) (fm : FM U ls (fr (nf - 1)) L) {i k : Nat} (hi : 1 ≤ i) (hi2 : i ≤ L.1.1) (t : (L.1.2 (L.1.1 - i)).1 = [6, k]) (pt : PT U.1.2.2 [6, k]) (hid : U.2.2.2.1 k = 0) : ty ((fr (nf - 1)).2.2.1.2 ((fr (nf - 1)).2.2.1.1 - i)).1 = 256 := by
  have hh := fm.1
  have s1 := fm.2.2.1 (L.1.1 - i) (by omega)
  obtain ⟨b0, b1, b2, b3, b4⟩ := h.pl (k := (fr (nf - 1)).2.2.1.1 - i) (by omega) (by rw [hh]; exact s1.1) (by rw [t]; exact pt)
  rw [t, sT_s, hid] at b3
  exact b3
/-- 3 -/
theorem sim_c3 (hF : 300 ≤ F) (h : Sm E sh n pk kt sl0 lim 1 zr zc H m ty fr nf na ak g Hc mc phi Rn cs cl cn ws) (hE : EvOk E) (hC : E.2.1 256 ≤ 38 ∧ E.2.1 11 ≤ 38) (fm : FM U ls (fr (nf - 1)) L) {k k2 k3 : Nat} (h2 : 2 ≤ L.1.1) (t1 : (L.1.2 (L.1.1 - 1)).1 = [6, k]) (t2 : (L.1.2 (L.1.1 - 2)).1 = [6, k2]) (pt : PT U.1.2.2 [6, k]) (hid : U.2.2.2.1 k = 0) (pt2 : PT U.1.2.2 [6, k2]) (hid2 : U.2.2.2.1 k2 = 0) (pt3 : PT U.1.2.2 [6, k3]) (hid3 : U.2.2.2.1 k3 = 0) (hp : lPush ([6, k3], 0, false) ((L.1.1 - 2, L.1.2), L.2) = .ok L') : Out E sh n pk kt sl0 lim zr zc fr nf na ak g ws U ls L' (fun i => i = (fr (nf - 1)).1.2.2) (fn_X18_coin F sh n zr 337 3) (fn_X4_useCoin F sh n zc 87 3) := by
  obtain ⟨rr1, rr2⟩ := h.rooms
  have hh := fm.1
  obtain ⟨b0, b1, b2, b3, cb, b4, b5⟩ := h.coinS fm (i := 1) (by omega) (by omega) t1 pt hid
  obtain ⟨a0, a1, a2, a3, ca, a4, a5⟩ := h.coinS fm (i := 2) (by omega) (by omega) t2 pt2 hid2
  have RV := h.2.1.coin3 (F := F) hF h.nw (by omega) h.h64 rfl rfl b0 a0 a2 b2 a4 b4 (by omega) 256
  have CV := h.2.2.1.coin3 (F := F) (by omega) a1 b1 a3 b3 (by omega) (m, 0, 256, 0, false)
  rw [a5, b5] at CV
  by_cases c : g + 5 ≤ lim
  · obtain ⟨z1, w1, w2, w3⟩ := RV.2 c
    obtain ⟨z2, d1, d2, d3⟩ := CV.2 c
    exact Out.coin h hE hC fm (c := 2) h2 (h.1.joinC hE hC (by omega) b0 a0 (h.coinT fm (i := 1) (by omega) (by omega) t1 pt hid) (h.coinT fm (i := 2) (by omega) (by omega) t2 pt2 hid2) b4 a4) (fun _ _ _ _ => rfl) (Nat.le_refl _) pt3 hid3 hp w1 d1 w2 d2 (h.2.2.2.1.fc d3) w3 d3.x (AkL.same (by omega))
  · obtain ⟨z1, w1, w2, w3⟩ := RV.1 (by omega)
    obtain ⟨z2, d1, d2, d3⟩ := CV.1 (by omega)
    exact Out.end 2 5 lim (.inr rfl) w1 d1 w2 d2 w3 d3.x
end
