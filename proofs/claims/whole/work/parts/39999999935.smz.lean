/-! BOTH MACHINES SIDE BY SIDE: what returns mean; slots over calls and returns -/
theorem ob_and {x y : Int64} {b : Nat} : ob (x &&& y) b = (ob x b && ob y b) := by
  unfold ob
  rw [Int64.toBitVec_and, BitVec.getLsbD_and]
theorem mask_ob : ∀ b, b < 64 → (b < 40 ∨ 48 ≤ b) → ob (-280375465082881 : Int64) b = true := by decide
theorem mask_in {x : Int64} (h : x &&& (-280375465082881 : Int64) = 0) {b : Nat} (hb : ob x b = true) : 40 ≤ b ∧ b < 48 := by
  by_cases c : 40 ≤ b ∧ b < 48
  · exact c
  · have b64 : b < 64 := by
      by_cases q : 64 ≤ b
      · rw [ob_64 q] at hb; exact absurd hb (by simp)
      · omega
    have w := ob_and (x := x) (y := -280375465082881) (b := b)
    rw [h, hb, mask_ob b b64 (by omega)] at w
    have z : ob (0 : Int64) b = false := by unfold ob; simp
    rw [z] at w
    exact absurd w (by simp)
theorem back_ok {U : Md} {ls : List Ty} {f : Nat} {L L' : Lks} (h : aBack U f ls L = .ok L') : L.1.1 = (gvsOf U f).length ∧ (∀ k, k < L.1.1 → (L.1.2 k).1 = (gvsOf U f).getD k []) ∧ (∀ k, k < L.1.1 → (L.1.2 k).2.1 &&& (-280375465082881 : Int64) = 0) := by
  unfold aBack at h
  obtain ⟨_, h1, h2⟩ := px_ok h
  obtain ⟨_, h3, h4⟩ := px_ok h2
  have n1 := nd_ok h1
  have n3 := nd_ok h3
  simp only [Bool.and_eq_true, beq_iff_eq] at n1
  refine ⟨n1.1, fun k hk => ?_, fun k hk => ?_⟩
  · have := List.all_eq_true.mp n1.2 k (List.mem_range.mpr hk)
    simpa using this
  · have := List.all_eq_true.mp n3 k (List.mem_range.mpr hk)
    simpa using this
/-- what is there at a return may be dropped -/
theorem back_d {U : Md} {ls : List Ty} {f : Nat} {L L' : Lks} (h : aBack U f ls L = .ok L') : ∀ k, k < ls.length → L.2.1 k = true → hasD U (ls.getD k []) = true := fun k hk ht => by
  unfold aBack at h
  obtain ⟨_, h1, h2⟩ := px_ok h
  obtain ⟨_, h3, h4⟩ := px_ok h2
  obtain ⟨_, h5, h6⟩ := px_ok h4
  have := List.all_eq_true.mp (nd_ok h5) k (List.mem_range.mpr hk)
  rw [ht] at this
  simpa using this
theorem hasD_r {U : Md} {t : Ty} (h : isR t = true) : hasD U t = true := by
  unfold hasD abT
  rw [if_pos h]
  rfl
section
variable {E : Ev} {H : Hp} {m : Nat} {ty : Nat → Nat} {fr : Nat → Fm} {nf na : Nat} {ak : Nat → Ask} {U U' : Md} {ls ls' : List Ty} {L L' L2 : Lks}
/-- a return, semantically -/
theorem MJ.rets (I : MJ E H m ty fr nf na ak (fun _ => none)) (h2 : 2 ≤ nf) {gv : List Ty} {f' : Nat} (w : Waits U ls (fr (nf - 2)) L' gv) (fm : FM U' ls' (fr (nf - 1)) L) (hb : aBack U' f' ls' L = .ok L2) (gl : gv.length = (gvsOf U' f').length) (gk : ∀ k, k < gv.length → TyS U U' (gv.getD k []) ((gvsOf U' f').getD k [])) : (fr (nf - 1)).2.2.1.1 = (gvsOf U' f').length ∧ (fr (nf - 2)).2.2.1.1 + (fr (nf - 1)).2.2.1.1 ≤ 64 ∧ ∃ rl : Nat → Sl, (∀ k, k < (fr (nf - 1)).2.2.1.1 → (rl k).1 = ((fr (nf - 1)).2.2.1.2 k).1 ∧ (rl k).2.1 = ((fr (nf - 1)).2.2.1.2 k).2.1) ∧ MJ E H m ty (setF fr (nf - 2) (rtF (fr (nf - 2)) (fr (nf - 1)).2.2.1.1 rl)) (nf - 1) na ak (fun _ => none) ∧ FM U ls (rtF (fr (nf - 2)) (fr (nf - 1)).2.2.1.1 rl) L' := by
  obtain ⟨M, args, w1, w2, w3, w4⟩ := w
  obtain ⟨b1, b2, b3⟩ := back_ok hb
  have hh := fm.1
  have hm := w1.1
  have m64 := w1.2.1
  obtain ⟨g1, g2, g3, g4, g5⟩ := gives_ok w2
  rw [List.length_map] at g1 g2
  have hl : (fr (nf - 1)).2.2.1.1 = gv.length := by omega
  have h64 : (fr (nf - 2)).2.2.1.1 + (fr (nf - 1)).2.2.1.1 ≤ 64 := by
    by_cases q : gv = []
    · rw [q] at hl
      have : ([] : List Ty).length = 0 := rfl
      omega
    · have := g1 (by simpa using q)
      omega
  have sl : ∀ k, k < gv.length → ((fr (nf - 1)).2.2.1.2 k).2.1 = sR (gv.getD k []) ∧ ((fr (nf - 1)).2.2.1.2 k).2.2.1 = sT U.2.2.2.1 (gv.getD k []) ∧ (((fr (nf - 1)).2.2.1.2 k).2.1 ≠ 0 → isR (gv.getD k []) = true ∧ ((fr (nf - 1)).2.2.1.2 k).2.1 = hdT (gv.getD k []) ∧ ((fr (nf - 1)).2.2.1.2 k).2.2.2.1 = (L.1.2 k).2.1) := fun k hk => by
    have s := (fm.2.2.1 k (by omega)).1
    obtain ⟨t1, t2⟩ := gk k hk
    rw [← b2 k (by omega)] at t1 t2
    refine ⟨by rw [s.1, t1], by rw [s.2.1, t2], fun q => ?_⟩
    have r1 : isR (gv.getD k []) = true := by
      by_cases r : isR (gv.getD k []) = true
      · exact r
      · rw [sR, if_neg r] at t1
        rw [s.1, ← t1] at q
        exact absurd rfl q
    have r2 : isR (L.1.2 k).1 = true := by
      by_cases r : isR (L.1.2 k).1 = true
      · exact r
      · rw [s.1, sR, if_neg r] at q
        exact absurd rfl q
    refine ⟨r1, ?_, (s.2.2 r2).1⟩
    rw [s.1, ← t1, sR, if_pos r1]
  refine ⟨by omega, h64, fun k => (((fr (nf - 1)).2.2.1.2 k).1, ((fr (nf - 1)).2.2.1.2 k).2.1, ((fr (nf - 1)).2.2.1.2 k).2.2.1, (gvA args (gv.getD k [])).2.1, (gvA args (gv.getD k [])).2.2), fun k hk => ⟨rfl, rfl⟩, ?_, ?_⟩
  · refine I.ret h2 (nx := (fr (nf - 2)).1.2.2) (fun k => (((fr (nf - 1)).2.2.1.2 k).1, ((fr (nf - 1)).2.2.1.2 k).2.1, ((fr (nf - 1)).2.2.1.2 k).2.2.1, (gvA args (gv.getD k [])).2.1, (gvA args (gv.getD k [])).2.2)) (fun k hk => ⟨rfl, rfl, rfl, fun q => ?_⟩)
    obtain ⟨r1, r2, r3⟩ := (sl k (by omega)).2.2 q
    refine ⟨by show rI (gv.getD k []) true = true; rw [rI, r1]; rfl, fun b hb2 => ?_, fun j gh hg h9 b hb2 => ?_⟩
    · rw [r3] at hb2
      exact mask_in (b3 k (by omega)) hb2
    · obtain ⟨s, s1, s2, s3⟩ := w4 j gh hg
      rw [s3] at hb2
      show ob (rO (gv.getD k []) (if hdT (gv.getD k []) = 9 then orO (args.filter (fun s => hdT s.1 == 9)) else orO args)) b = true
      rw [rO, if_pos r1]
      by_cases c : hdT (gv.getD k []) = 9
      · rw [if_pos c]
        have : hdT s.1 = 9 := by rw [← s2]; exact h9 (by show ((fr (nf - 1)).2.2.1.2 k).2.1 = 9; omega)
        exact orO_ob (List.mem_filter.mpr ⟨s1, by rw [this]; rfl⟩) hb2
      · rw [if_neg c]
        exact orO_ob s1 hb2
  · have := w1.many (ss := gv.map (gvA args)) (sl := fun k => (((fr (nf - 1)).2.2.1.2 k).1, ((fr (nf - 1)).2.2.1.2 k).2.1, ((fr (nf - 1)).2.2.1.2 k).2.2.1, (gvA args (gv.getD k [])).2.1, (gvA args (gv.getD k [])).2.2)) w2 (fun i hi => by
      rw [List.length_map] at hi
      have ei : gv.getD i [] = gv[i] := by rw [List.getD_eq_getElem?_getD, List.getElem?_eq_getElem hi]; rfl
      rw [List.getElem_map]
      obtain ⟨y1, y2, y3⟩ := sl i hi
      rw [ei] at y1 y2
      rw [ei]
      exact ⟨⟨y1, y2, fun _ => ⟨rfl, rfl⟩⟩, w3 _ (List.getElem_mem hi)⟩)
    rw [List.length_map, ← hl] at this
    exact this
end
section
variable {fr : Nat → Fm} {cs cl : Nat → Nat → Nat} {nf : Nat} {phi : Nat → Nat} {Rn : Nat → Option Nat}
/-- slots over a call -/
theorem SRel.call (h : SRel phi Rn (Vs fr cs cl nf)) (n0 : 0 < nf) {u f c nx : Nat} {gh : Nat → Option Sl} {ps : Nat → Sl} (hc : c ≤ (fr (nf - 1)).2.2.1.1) (hp : ∀ k, k < c → (ps k).1 = ((fr (nf - 1)).2.2.1.2 ((fr (nf - 1)).2.2.1.1 - c + k)).1 ∧ (ps k).2.1 = ((fr (nf - 1)).2.2.1.2 ((fr (nf - 1)).2.2.1.1 - c + k)).2.1) : SRel phi Rn (Vs (enF fr nf u f c nx gh ps) cs (enC cs cl nf (fr (nf - 1)).2.2.1.1 c) (nf + 1)) := by
  have eA : enF fr nf u f c nx gh ps (nf - 1) = (((fr (nf - 1)).1.1, (fr (nf - 1)).1.2.1, nx), (fr (nf - 1)).2.1, ((fr (nf - 1)).2.2.1.1 - c, (fr (nf - 1)).2.2.1.2), gh) := by
    unfold enF
    rw [setF_n (by omega), setF_s]
  have eB : enF fr nf u f c nx gh ps nf = ((u, f, 0), (fun k => if k < c then some (ps k) else none), (0, fun _ => (0, 0, 0, 0, false)), fun _ => none) := by
    unfold enF
    rw [setF_s]
  have eO : ∀ d, d ≠ nf - 1 → d ≠ nf → enF fr nf u f c nx gh ps d = fr d := fun d a b => by
    unfold enF
    rw [setF_n b, setF_n a]
  generalize enF fr nf u f c nx gh ps = fr' at *
  refine h.relay (fun x d k => if x = 0 ∧ d = nf - 1 ∧ (fr (nf - 1)).2.2.1.1 - c ≤ k then (1, nf, k - ((fr (nf - 1)).2.2.1.1 - c)) else (x, d, k)) (0, nf, 0) (fun x d k t v q => ?_)
  obtain ⟨q1, q2⟩ := Vs_c q
  by_cases dn : d = nf
  · subst dn
    rcases q2 with ⟨_, a2, _⟩ | ⟨a1, a2, a3⟩
    · rw [eB] at a2; exact absurd a2 (by simp)
    · rw [eB] at a2
      have a2' : (if k < c then some (ps k) else none) = some t := a2
      by_cases kc : k < c
      · rw [if_pos kc] at a2'
        have e : ps k = t := by simpa using a2'
        have ev : v = cs (d - 1) ((fr (d - 1)).2.2.1.1 - c + k) := by
          rw [a3]; unfold enC; rw [if_pos rfl, if_pos kc]
        have V := Vs_0 (fr := fr) (cs := cs) (cl := cl) (nf := d) (d := d - 1) (k := (fr (d - 1)).2.2.1.1 - c + k) (by omega) (by omega)
        rw [← ev] at V
        obtain ⟨p1, p2⟩ := hp k kc
        rw [e] at p1 p2
        have s := h.1 _ _ _ _ _ V
        refine ⟨⟨fun z => by rw [p1]; exact s.1 (by rw [← p2]; exact z), fun z => by rw [p1]; exact s.2 (by rw [← p2]; exact z)⟩, fun r => .inl ⟨0, d - 1, _, _, V, by rw [← p2]; exact r, ?_⟩⟩
        rw [if_pos ⟨rfl, rfl, by omega⟩, a1]
        congr 2
        omega
      · rw [if_neg kc] at a2'; exact absurd a2' (by simp)
  · by_cases d1 : d = nf - 1
    · subst d1
      rcases q2 with ⟨a1, a2, a3, a4⟩ | ⟨a1, a2, a3⟩
      · rw [eA] at a2 a3
        have a2' : k < (fr (nf - 1)).2.2.1.1 - c := a2
        have V := Vs_0 (fr := fr) (cs := cs) (cl := cl) (nf := nf) (d := nf - 1) (k := k) (by omega) (by omega)
        have V' : Vs fr cs cl nf 0 (nf - 1) k = some (t, v) := by rw [V, a3, a4]
        exact ⟨h.1 _ _ _ _ _ V', fun r => .inl ⟨0, nf - 1, k, t, V', r, by rw [if_neg (by omega), a1]⟩⟩
      · rw [eA] at a2
        have ev : v = cl (nf - 1) k := by rw [a3]; unfold enC; rw [if_neg (by omega)]
        have V := Vs_1 (fr := fr) (cs := cs) (cl := cl) (nf := nf) (d := nf - 1) (k := k) (by omega) a2
        rw [← ev] at V
        exact ⟨h.1 _ _ _ _ _ V, fun r => .inl ⟨1, nf - 1, k, t, V, r, by rw [if_neg (by omega), a1]⟩⟩
    · rw [eO d d1 dn] at q2
      rcases q2 with ⟨a1, a2, a3, a4⟩ | ⟨a1, a2, a3⟩
      · have V := Vs_0 (fr := fr) (cs := cs) (cl := cl) (nf := nf) (d := d) (k := k) (by omega) a2
        have V' : Vs fr cs cl nf 0 d k = some (t, v) := by rw [V, a3, a4]
        exact ⟨h.1 _ _ _ _ _ V', fun r => .inl ⟨0, d, k, t, V', r, by rw [if_neg (by omega), a1]⟩⟩
      · have ev : v = cl d k := by rw [a3]; unfold enC; rw [if_neg dn]
        have V := Vs_1 (fr := fr) (cs := cs) (cl := cl) (nf := nf) (d := d) (k := k) (by omega) a2
        rw [← ev] at V
        exact ⟨h.1 _ _ _ _ _ V, fun r => .inl ⟨1, d, k, t, V, r, by rw [if_neg (by omega), a1]⟩⟩
/-- slots over a return -/
theorem SRel.ret (h : SRel phi Rn (Vs fr cs cl nf)) (h2 : 2 ≤ nf) {rl : Nat → Sl} (hp : ∀ k, k < (fr (nf - 1)).2.2.1.1 → (rl k).1 = ((fr (nf - 1)).2.2.1.2 k).1 ∧ (rl k).2.1 = ((fr (nf - 1)).2.2.1.2 k).2.1) : SRel phi Rn (Vs (setF fr (nf - 2) (rtF (fr (nf - 2)) (fr (nf - 1)).2.2.1.1 rl)) (rtC cs (nf - 2) (fr (nf - 2)).2.2.1.1 (fr (nf - 1)).2.2.1.1 (cs (nf - 1))) cl (nf - 1)) := by
  refine h.relay (fun x d k => if x = 0 ∧ d = nf - 1 then (0, nf - 2, (fr (nf - 2)).2.2.1.1 + k) else (x, d, k)) (0, nf, 0) (fun x d k t v q => ?_)
  obtain ⟨q1, q2⟩ := Vs_c q
  by_cases d2 : d = nf - 2
  · subst d2
    rw [setF_s] at q2
    rcases q2 with ⟨a1, a2, a3, a4⟩ | ⟨a1, a2, a3⟩
    · have a2' : k < (fr (nf - 2)).2.2.1.1 + (fr (nf - 1)).2.2.1.1 := a2
      have a3' : t = (if k < (fr (nf - 2)).2.2.1.1 then (fr (nf - 2)).2.2.1.2 k else rl (k - (fr (nf - 2)).2.2.1.1)) := a3
      unfold rtC at a4
      by_cases kc : k < (fr (nf - 2)).2.2.1.1
      · rw [if_pos kc] at a3'
        rw [if_neg (by omega)] at a4
        have V := Vs_0 (fr := fr) (cs := cs) (cl := cl) (nf := nf) (d := nf - 2) (k := k) (by omega) kc
        have V' : Vs fr cs cl nf 0 (nf - 2) k = some (t, v) := by rw [V, a3', a4]
        exact ⟨h.1 _ _ _ _ _ V', fun r => .inl ⟨0, nf - 2, k, t, V', r, by rw [if_neg (by omega), a1]⟩⟩
      · rw [if_neg kc] at a3'
        rw [if_pos ⟨rfl, by omega, by omega⟩] at a4
        have V := Vs_0 (fr := fr) (cs := cs) (cl := cl) (nf := nf) (d := nf - 1) (k := k - (fr (nf - 2)).2.2.1.1) (by omega) (by omega)
        rw [← a4] at V
        obtain ⟨p1, p2⟩ := hp (k - (fr (nf - 2)).2.2.1.1) (by omega)
        rw [← a3'] at p1 p2
        have s := h.1 _ _ _ _ _ V
        refine ⟨⟨fun z => by rw [p1]; exact s.1 (by rw [← p2]; exact z), fun z => by rw [p1]; exact s.2 (by rw [← p2]; exact z)⟩, fun r => .inl ⟨0, nf - 1, _, _, V, by rw [← p2]; exact r, ?_⟩⟩
        rw [if_pos ⟨rfl, rfl⟩, a1]
        congr 2
        omega
    · have a2' : (fr (nf - 2)).2.1 k = some t := a2
      have V := Vs_1 (fr := fr) (cs := cs) (cl := cl) (nf := nf) (d := nf - 2) (k := k) (by omega) a2'
      rw [← a3] at V
      exact ⟨h.1 _ _ _ _ _ V, fun r => .inl ⟨1, nf - 2, k, t, V, r, by rw [if_neg (by omega), a1]⟩⟩
  · rw [setF_n d2] at q2
    rcases q2 with ⟨a1, a2, a3, a4⟩ | ⟨a1, a2, a3⟩
    · unfold rtC at a4
      rw [if_neg (by omega)] at a4
      have V := Vs_0 (fr := fr) (cs := cs) (cl := cl) (nf := nf) (d := d) (k := k) (by omega) a2
      have V' : Vs fr cs cl nf 0 d k = some (t, v) := by rw [V, a3, a4]
      exact ⟨h.1 _ _ _ _ _ V', fun r => .inl ⟨0, d, k, t, V', r, by rw [if_neg (by omega), a1]⟩⟩
    · have V := Vs_1 (fr := fr) (cs := cs) (cl := cl) (nf := nf) (d := d) (k := k) (by omega) a2
      rw [← a3] at V
      exact ⟨h.1 _ _ _ _ _ V, fun r => .inl ⟨1, d, k, t, V, r, by rw [if_neg (by omega), a1]⟩⟩
end
