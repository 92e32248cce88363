/-! BOTH ROOTS -/
def pcP (wc : Nat) (bs : Nat → Nat × (Nat → Nat)) (nc : Nat) (ac : Nat → Int64 × Int64 × Int64) (nr : Nat) (rs : Nat → Int64 × Nat × Hp × Nat) : List Plc := (List.range nc).map (fun i => plA (ac i)) ++ ((List.range wc).map (fun i => pcM (bs (i + 1))) ++ (List.range nr).map (fun i => pcR (rs i)))
/-- what a root must be -/
def RtO (RV : RtV) : Prop := ∀ wc bs nc ac nr rs S, UqP (pcP wc bs nc ac nr rs) → SrP (pcP wc bs nc ac nr rs) S → ∀ j, j < 4 → RV wc bs nc ac nr rs j = trD ndH lfP 256 S j
theorem rt_ex : ∃ RV : RtV, RtO RV ∧ ∀ bs ac rs j, RV 0 bs 0 ac 0 rs j = 0 := by
  classical
  refine ⟨fun wc bs nc ac nr rs j => if h : ∃ S, SrP (pcP wc bs nc ac nr rs) S then trD ndH lfP 256 h.choose j else 0, fun wc bs nc ac nr rs S u h j _ => ?_, fun bs ac rs j => ?_⟩
  · have e : ∃ S, SrP (pcP wc bs nc ac nr rs) S := ⟨S, h⟩
    show (if h : ∃ S, SrP (pcP wc bs nc ac nr rs) S then trD ndH lfP 256 h.choose j else 0) = _
    rw [dif_pos e, e.choose_spec.uniq h u (fun _ => Iff.rfl)]
  · show (if h : ∃ S, SrP (pcP 0 bs 0 ac 0 rs) S then trD ndH lfP 256 h.choose j else 0) = 0
    by_cases e : ∃ S, SrP (pcP 0 bs 0 ac 0 rs) S
    · rw [dif_pos e]
      have q := e.choose_spec
      have : e.choose = [] := List.eq_nil_iff_forall_not_mem.mpr (fun x hx => by
        have := (q.2.1 x hx).1
        exact absurd this (by simp [pcP]))
      rw [this, trD_n]
    · rw [dif_neg e]
section
variable {RV : RtV} {F n : Nat} {sh : Nat → Nat × Nat} {z z' y y' : St} {ws : Nat → Md} {wc : Nat} {dp : Nat → Nat → Nat} {bs : Nat → Nat × (Nat → Nat)} {nc : Nat} {ac : Nat → Int64 × Int64 × Int64} {nr : Nat} {rs : Nat → Int64 × Nat × Hp × Nat} {so : Nat → Option Rsc}
theorem mem_pc {x : Plc} : x ∈ pcP wc bs nc ac nr rs ↔ ((∃ j, j < nc ∧ x = plA (ac j)) ∨ ∃ j, 1 ≤ j ∧ j ≤ wc ∧ x = pcM (bs j)) ∨ ∃ j, j < nr ∧ x = pcR (rs j) := by
  unfold pcP
  rw [List.mem_append, List.mem_append, List.mem_map, List.mem_map, List.mem_map]
  constructor
  · rintro (⟨j, a, b⟩ | ⟨j, a, b⟩ | ⟨j, a, b⟩)
    · exact .inl (.inl ⟨j, List.mem_range.mp a, b.symm⟩)
    · exact .inl (.inr ⟨j + 1, by omega, by have := List.mem_range.mp a; omega, b.symm⟩)
    · exact .inr ⟨j, List.mem_range.mp a, b.symm⟩
  · rintro ((⟨j, a, b⟩ | ⟨j, a, a', b⟩) | ⟨j, a, b⟩)
    · exact .inl ⟨j, List.mem_range.mpr a, b.symm⟩
    · exact .inr (.inl ⟨j - 1, List.mem_range.mpr (by omega), by rw [show j - 1 + 1 = j by omega]; exact b.symm⟩)
    · exact .inr (.inr ⟨j, List.mem_range.mpr a, b.symm⟩)
/-- numbers of modules -/
theorem Wor.num (h : Wor sh n z y ws wc dp bs) {i : Nat} (h1 : 1 ≤ i) (h2 : i ≤ wc) : (ws i).1.1 = 256 * (bs i).2 4 + (bs i).2 5 ∧ 6 ≤ (bs i).1 ∧ (bs i).1 ≤ 2048 := by
  obtain ⟨⟨b, len, M, u, e, _, h6, _⟩, _⟩ := h.1.2.2.2 i h1 h2
  obtain ⟨kb, c1, c2, c3, c4, c5, c6⟩ := h.2.2.2 i h1 h2
  have l48 := u.1.2.2.2.1
  have el : len = (bs i).1 := nI_uq (by rw [← u.1.2.2.1, c4]) (by omega) (by omega)
  have eb : ∀ p, p < len → b p = (bs i).2 p := fun p hp => by
    obtain ⟨q1, q2⟩ := u.1.2.2.2.2 p hp
    obtain ⟨q3, q4, _⟩ := c6 p (by omega)
    exact nI_uq (by rw [← q1, ← q4]) (by omega) (by omega)
  refine ⟨?_, by omega, c5⟩
  rw [e]
  show 256 * b 4 + b (4 + 1) = _
  rw [eb 4 (by omega), eb 5 (by omega)]
theorem Wor.mdB (h : Wor sh n z y ws wc dp bs) : MdB sh n y wc bs ∧ MdR sh n z wc bs := by
  have w8 := h.2.2.1.2.2.1
  refine ⟨fun i h1 h2 => ?_, fun i h1 h2 => ?_⟩
  · obtain ⟨n1, n2, n3⟩ := h.num h1 h2
    obtain ⟨⟨kb', b, len, M, p, e, _, _, h6⟩, _⟩ := h.2.1.2.2.2 i h2
    obtain ⟨kb, c1, c2, c3, c4, c5, c6⟩ := h.2.2.2 i h1 h2
    have nm := p.num2 h6
    rw [← e, n1] at nm
    exact ⟨kb, c1, c2, c3, c5, nm.1, nm.2, fun p hp => (c6 p hp).2.2⟩
  · obtain ⟨n1, n2, n3⟩ := h.num h1 h2
    obtain ⟨kb, c1, c2, c3, c4, c5, c6⟩ := h.2.2.2 i h1 h2
    exact ⟨⟨h.1.1, ⟨i, by omega, rfl⟩, c4, c5, fun p hp => ⟨(c6 p hp).2.1, (c6 p hp).1⟩⟩, n2⟩
theorem uq_pc (h : Wor sh n z y ws wc dp bs) (uq : UqA nc ac) (rp : RsP (evW ws wc dp led0) (evW ws wc dp led0).1 nr rs so) : UqP (pcP wc bs nc ac nr rs) ∧ ∀ x, x ∈ pcP wc bs nc ac nr rs → PkO x := by
  have pk : ∀ x, x ∈ pcP wc bs nc ac nr rs → PkO x := fun x hx => by
    rcases mem_pc.mp hx with (⟨j, a, b⟩ | ⟨j, a, a', b⟩) | ⟨j, a, b⟩
    · rw [b]; exact ⟨by show 1 ≤ 3; omega, by show 0 < 2 ^ 24; omega, fun _ => rfl⟩
    · have := h.num a a'
      have := h.2.2.1.1.2.1 j a'
      rw [b]; exact ⟨by show 2 ≤ 3; omega, by show 256 * _ < 2 ^ 24; omega, fun _ => by show 256 * _ % 256 = 0; omega⟩
    · rw [b]; exact ⟨by show 3 ≤ 3; omega, (rp.1 j a).1, fun w => absurd w (by show ¬ 3 = 2; omega)⟩
  refine ⟨fun x y hx hy _ ei => ?_, pk⟩
  have k1 := pk x hx
  have k2 := pk y hy
  rw [idN_e k1, idN_e k2] at ei
  have m1 := k1.2.1
  have m2 := k2.2.1
  have a1 := N_lt x.2.1.2.1
  have a2 := N_lt y.2.1.2.1
  have e1 : x.2.1.1 = y.2.1.1 := by omega
  have e2 : N x.2.1.2.1 = N y.2.1.2.1 := by omega
  have e3 : x.2.1.2.2 = y.2.1.2.2 := by omega
  have e2' := N_inj e2
  rcases mem_pc.mp hx with (⟨j, a, b⟩ | ⟨j, a, a', b⟩) | ⟨j, a, b⟩
  · rcases mem_pc.mp hy with (⟨i, c, d⟩ | ⟨i, c, c', d⟩) | ⟨i, c, d⟩
    · rw [b, d] at e2'
      have : j = i := uq j i a c e2'
      rw [b, d, this]
    · rw [b, d] at e1; exact absurd e1 (by show ¬ 1 = 2; omega)
    · rw [b, d] at e1; exact absurd e1 (by show ¬ 1 = 3; omega)
  · rcases mem_pc.mp hy with (⟨i, c, d⟩ | ⟨i, c, c', d⟩) | ⟨i, c, d⟩
    · rw [b, d] at e1; exact absurd e1 (by show ¬ 2 = 1; omega)
    · rw [b, d] at e3
      have e3' : 256 * (256 * (bs j).2 4 + (bs j).2 5) = 256 * (256 * (bs i).2 4 + (bs i).2 5) := e3
      have : j = i := h.2.2.1.1.2.2 j i a' c' (by rw [(h.num a a').1, (h.num c c').1]; omega)
      rw [b, d, this]
    · rw [b, d] at e1; exact absurd e1 (by show ¬ 2 = 3; omega)
  · rcases mem_pc.mp hy with (⟨i, c, d⟩ | ⟨i, c, c', d⟩) | ⟨i, c, d⟩
    · rw [b, d] at e1; exact absurd e1 (by show ¬ 3 = 1; omega)
    · rw [b, d] at e1; exact absurd e1 (by show ¬ 3 = 2; omega)
    · rw [b, d] at e2' e3
      have : j = i := rp.2.2.1 j i a c e2' e3
      rw [b, d, this]
theorem Top.rt (hn : n ≤ 10 ^ 12) {D : Nat} (a1 : Wor sh n z y ws wc dp bs) (lg : Lgr z y ws wc dp nc ac nr rs so D) (bk : ∃ cnt dn, Bck sh n z y cnt dn) (tp : ∃ len w, Tap z y len w) (ak : ∃ len, Akd z y len) (fz : FRr z z') (fy : y'.2.2 = y.2.2 ∧ ∀ k, ¬ (73 ≤ k ∧ k ≤ 85) → y'.1 k = y.1 k ∧ y'.2.1 k = y.2.1 k) (fs : Fsh RV y' wc bs nc ac nr rs) : Top RV sh n z' y' := by
  obtain ⟨⟨r1, r2, rp, uq, pl⟩, ld, ⟨m1, m2, m3⟩, sl6, sl8⟩ := lg
  obtain ⟨cnt, dn, a4⟩ := bk
  obtain ⟨len', w, a5⟩ := tp
  obtain ⟨l2, a6⟩ := ak
  have lz : Lay sh n z' := a1.1.1.of fz.1
  have ly : Lay sh n y' := a1.2.1.1.of fy.1
  have ft : FzT z z' := fun k a b => ⟨fz.2.1 k (by omega) (by omega), fz.2.2.2 k (by omega) (by omega) (by omega)⟩
  have gt : FyT y y' := ⟨fy.1, fun k a => fy.2 k (by omega)⟩
  have l37 : z'.2.1 337 = z.2.1 337 := fz.2.2.2 337 (by omega) (by omega) (by omega)
  refine ⟨ws, wc, dp, bs, nc, ac, nr, rs, so, D, a1.of lz ly (fz.2.2.1 5 (by decide)) (fun k q => fz.2.1 k (by omega) (by omega)) (by rw [(fy.2 3 (by omega)).1]) (fun k _ _ => by rw [fy.1]) (fun k q => fy.2 k (by omega)), ⟨⟨r1.fr fz, r2.of (fun k a b => fy.2 k (by omega)), rp, uq, pl⟩, ld, ⟨?_, ?_, ?_⟩, ?_, ?_⟩, fs, ⟨cnt, dn, a4.of (fz.2.2.1 52 (by decide)) (fz.2.2.1 53 (by decide)) (by rw [(fy.2 0 (by omega)).1]) (by rw [(fy.2 0 (by omega)).1]) (fun t _ => ft.e) (fun t _ => gt.e) (Nat.le_refl _) (fun _ _ => rfl) hn⟩, ⟨len', w, a5.of ⟨fz.2.2.1 50 (by decide), fz.2.2.1 51 (by decide), fz.2.1 399 (by omega) (by omega)⟩ ⟨by rw [(fy.2 0 (by omega)).1], by rw [(fy.2 0 (by omega)).1], (fy.2 1 (by omega)).1⟩⟩, l2, a6.of ⟨fz.2.2.1 75 (by decide), fz.2.1 420 (by omega) (by omega)⟩ ⟨by rw [(fy.2 0 (by omega)).1], (fy.2 86 (by omega)).1⟩⟩
  · rw [l37, (fy.2 3 (by omega)).2]; exact m1
  · rw [l37, (fy.2 3 (by omega)).2]; exact m2
  · rw [l37]; exact m3
  · rw [fz.2.2.1 22 (by decide), (fy.2 88 (by omega)).1]; exact sl6
  · rw [(fy.2 88 (by omega)).1]; exact sl8
theorem m_root (hR : RtO RV) (hF : 2400 ≤ F) (y0 : Int32) (hn : n ≤ 10 ^ 12) (h : Top RV sh n z y) : ∃ z' y' r, fn_X11_root F sh n y 0 y0 = some (y', r) ∧ fn_X18_root F sh n z 337 y0 = some (z', r) ∧ Top RV sh n z' y' := by
  have h0 := h
  obtain ⟨ws, wc, dp, bs, nc, ac, nr, rs, so, D, a1, lg, a3, bk, tp, ak⟩ := h
  have lg' := lg
  obtain ⟨⟨r1, r2, rp, uq, pl⟩, _⟩ := lg'
  have rp' : RsP (evW ws wc dp led0) (evW ws wc dp led0).1 nr rs so := rp
  have hA := a1.2.2.1.evA (led := led0)
  have hL := a1.1.1
  have hC := a1.2.1.1
  obtain ⟨mb, mr⟩ := a1.mdB
  obtain ⟨up, pk⟩ := uq_pc a1 uq rp'
  have w8 := a1.2.2.1.2.2.1
  rcases i32_3 y0 (m := 4) (by omega) with w | w | ⟨j, j1, j2, j3, _⟩
  · unfold fn_X11_root fn_X18_root
    rw [if_pos w, if_pos w]
    exact ⟨_, _, _, rfl, rfl, h0⟩
  · have n3 : ¬ y0 ≤ 3 := fun e => by
      have q := w.2.1
      rw [Int32.le_iff_toInt_le] at e q
      have e0 : (nI 4).toInt = 4 := by decide
      have e1 : (3 : Int32).toInt = 3 := by decide
      omega
    unfold fn_X11_root fn_X18_root
    rw [if_neg w.1, if_neg w.1, if_neg n3, if_neg n3]
    exact ⟨_, _, _, rfl, rfl, h0⟩
  · subst j2
    have le3 : nI j ≤ 3 := (nI_leW (b := 3) (by omega) (by omega)).mpr (by omega)
    obtain ⟨z', S, b1, b2, b3⟩ := ref_root (F := F) hF hL r1 w8 a1.1.2.1 mr (fun i hi => by
      obtain ⟨_, r, v, _, _, _, _, q⟩ := rp'.1 i hi
      exact q.leaf) (fun i hi => (rp'.1 i hi).1) pl (fun x => mem_pc.symm) j1
    have vj := hR wc bs nc ac nr rs S up b3
    unfold fn_X11_root
    rw [if_neg j3, if_pos le3, (b_ledg hC).1, grd_true, hC.2.2 0 10 73 rfl, lnk_s, (b_tree hC).1, grd_true]
    by_cases c : y.1 73 1 = 0
    · rw [if_pos c, lnk_s, (b_tree hC).1, grd_true, (b_tree hC).2.1, lnk_s, lay_a hC 74 102 4 (by decide) rfl, okI_nI (by omega) (by omega), grd_true, nI_clamp (by omega), a3 c j j1, vj j j1]
      exact ⟨z', y, _, rfl, b1, Top.rt hn a1 lg bk tp ak b2 ⟨rfl, fun _ _ => ⟨rfl, rfl⟩⟩ a3⟩
    · have hkn : ∀ r v, r < 256 → so r = some v → ∀ e, e ∈ v.2.2 → KnO e.1 := fun r v hr ev => by
        obtain ⟨i, _, _, _, q⟩ := rp'.match hr ev
        obtain ⟨d, tq, q1, _⟩ := q
        exact TyE.kn d _ q1
      have pcs : ∀ i v, i < nr → (rs i).1 = v.1 → (rs i).2.1 = v.2.1 → ResR (evW ws wc dp led0) (evW ws wc dp led0).1 (rs i).2.2.1 (rs i).2.2.2 (rs i).2.1 v.2.2 → pcS v = pcR (rs i) := fun i v hi e1 e2 q => by
        unfold pcS pcR
        rw [q.bytes hA (r1.2.2.2 i hi).2.2.2.1, e1, e2]
      obtain ⟨y', S', c1, c2, c3, c4, c5⟩ := reb_all (F := F) (Pl := pcP wc bs nc ac nr rs) hF hC r2 hkn w8 a1.2.1.2.1 mb (by rw [rp'.2.2.2.2]; exact pl) (fun x => by
        rw [mem_pc]
        constructor
        · rintro (q | ⟨r, v, q1, q2, q3⟩)
          · exact .inl q
          · obtain ⟨i, i1, i2, i3, i4⟩ := rp'.match q1 q2
            exact .inr ⟨i, i1, by rw [q3]; exact pcs i v i1 i2 i3 i4⟩
        · rintro (q | ⟨i, q1, q2⟩)
          · exact .inl q
          · obtain ⟨_, r, v, s1, s2, s3, s4, s5⟩ := rp'.1 i q1
            exact .inr ⟨r, v, s1, s2, by rw [q2]; exact (pcs i v q1 s3.symm s4.symm s5).symm⟩)
      have es : S' = S := c4.uniq b3 up (fun _ => Iff.rfl)
      subst es
      have ly : Lay sh n y' := hC.of c2.1
      rw [if_neg c, lnk_s, hC.2.2 0 6 3 rfl, lnk_s, (b_tree hC).1, grd_true, c1, cal_s, ly.2.2 0 10 73 rfl, lnk_s, (b_tree ly).1, grd_true, (b_tree ly).2.1, lnk_s, lay_a hC 74 102 4 (by decide) rfl, okI_nI (by omega) (by omega), grd_true, nI_clamp (by omega), c5 j j1]
      exact ⟨z', y', _, rfl, b1, Top.rt hn a1 lg bk tp ak b2 c2 (fun _ k hk => by rw [c5 k hk]; exact (vj k hk).symm)⟩
theorem lw_root (hR : RtO RV) {q : Nat} (y0 : Int32) (hq : q ≤ 512) (h : IV RV q sh n z) : ∃ F z1 z2 r, fn_X11_root F sh n z 0 y0 = some (z1, r) ∧ fn_X18_root F sh n z1 337 y0 = some (z2, r) ∧ IV RV (q + 1) sh n z2 := by
  obtain ⟨h1, h2, h3⟩ := h
  have hb : n ≤ 10 ^ 12 := by omega
  obtain ⟨z1, z2, r, a, b, c, d⟩ := Top.both (C := fun z => fn_X11_root 20002 sh n z 0 y0) (M := fun z => fn_X18_root 20002 sh n z 337 y0) (fun z y t => m_root (F := 20002) hR (by omega) y0 hb t) (kC_root y0) (kM_root y0) hb h1 h2
  exact ⟨20002, z1, z2, r, a, b, c, d, by omega⟩
end
