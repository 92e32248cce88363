/-! COINS ARE MINTED -/
theorem smG_bump {α : Type} [DecidableEq α] {f g : α → Nat} {v : α} {c : Nat} (hv : f v ≤ g v + c) (ho : ∀ x, x ≠ v → f x ≤ g x) {l : List α} (hn : l.Nodup) : smG f l ≤ smG g l + c := by
  by_cases m : v ∈ l
  · rw [smG_out f m, smG_out g m]
    have := smG_le (f := f) (g := g) (l := l.erase v) (fun x hx => ho x (fun e => hn.not_mem_erase (e ▸ hx)))
    omega
  · have := smG_le (f := f) (g := g) (l := l) (fun x hx => ho x (fun e => m (e ▸ hx)))
    omega
section
variable {E : Ev} {D nc nr : Nat} {ac ac' : Nat → Int64 × Int64 × Int64} {rs : Nat → Int64 × Nat × Hp × Nat}
theorem LdT.add (h : LdT E D nc ac nr rs) (a : Int64) {c nc' : Nat} (hc : c < 2 ^ 63) (e : ∀ j, j < nc' → (j < nc ∧ (ac' j).1 = (ac j).1 ∧ ((ac j).1 ≠ a → (ac' j).2.1 = (ac j).2.1) ∧ ((ac j).1 = a → (ac' j).2.1 = (ac j).2.1 + lN c)) ∨ ((ac' j).1 = a ∧ N (ac' j).2.1 ≤ c)) : LdT E (D + c) nc' ac' nr rs := by
  obtain ⟨led, ⟨h1, h2⟩, hS⟩ := h
  refine ⟨fun s b k => if s = 1 ∧ b = a ∧ k = 0 then led s b k + c else led s b k, ⟨fun j hj => ?_, fun j tq hj hq t0 => ?_⟩, fun l hn => ?_⟩
  · rcases e j hj with ⟨e0, e1, e2, e3⟩ | ⟨e1, e2⟩
    · have b1 := h1 j e0
      rw [e1]
      show _ ≤ (if 1 = 1 ∧ (ac j).1 = a ∧ 0 = 0 then led 1 (ac j).1 0 + c else led 1 (ac j).1 0)
      by_cases q : (ac j).1 = a
      · rw [if_pos ⟨rfl, q, rfl⟩, e3 q, N_add, N_lN hc]
        have := Nat.mod_le (N (ac j).2.1 + c) (2 ^ 64)
        omega
      · rw [if_neg (fun w => q w.2.1), e2 q]; exact b1
    · show _ ≤ (if 1 = 1 ∧ (ac' j).1 = a ∧ 0 = 0 then led 1 (ac' j).1 0 + c else led 1 (ac' j).1 0)
      rw [if_pos ⟨rfl, e1, rfl⟩]; omega
  · show _ ≤ (if 3 = 1 ∧ _ then _ else _)
    rw [if_neg (fun w => absurd w.1 (by decide))]
    exact h2 j tq hj hq t0
  · have := smG_bump (f := fun x : Nat × Int64 × Nat => if x.1 = 1 ∧ x.2.1 = a ∧ x.2.2 = 0 then led x.1 x.2.1 x.2.2 + c else led x.1 x.2.1 x.2.2) (g := fun x : Nat × Int64 × Nat => led x.1 x.2.1 x.2.2) (v := (1, a, 0)) (c := c) (Nat.le_of_eq (if_pos ⟨rfl, rfl, rfl⟩)) (fun x hx => Nat.le_of_eq (if_neg (fun q => hx (by
      obtain ⟨x1, x2, x3⟩ := x
      obtain ⟨q1, q2, q3⟩ := q
      have q1' : x1 = 1 := q1
      have q2' : x2 = a := q2
      have q3' : x3 = 0 := q3
      rw [q1', q2', q3'])))) hn
    exact Nat.le_trans this (Nat.add_le_add_right (hS l hn) c)
end
section
variable {RV : RtV} {F n : Nat} {sh : Nat → Nat × Nat} {z z' y y' : St} {ws : Nat → Md} {wc : Nat} {dp : Nat → Nat → Nat} {bs : Nat → Nat × (Nat → Nat)} {nc : Nat} {ac : Nat → Int64 × Int64 × Int64} {nr : Nat} {rs : Nat → Int64 × Nat × Hp × Nat} {so : Nat → Option Rsc} {D i : Nat}
theorem Wor.of (h : Wor sh n z y ws wc dp bs) (lz : Lay sh n z') (ly : Lay sh n y') (z5 : z'.1 337 5 = z.1 337 5) (zk : ∀ k, k = 342 ∨ 423 ≤ k ∧ k < 513 → z'.1 k = z.1 k) (y5 : y'.1 3 5 = y.1 3 5) (yl : ∀ k, 15 ≤ k → k < 60 → y'.2.2 k 0 = y.2.2 k 0) (yk : ∀ k, (15 ≤ k ∧ k < 60) ∨ 513 ≤ k → y'.1 k = y.1 k ∧ y'.2.1 k = y.2.1 k) : Wor sh n z' y' ws wc dp bs := by
  have w8 := h.2.2.1.2.2.1
  obtain ⟨⟨h1, h2, h3, h4⟩, hc, hS, hB⟩ := h
  refine ⟨⟨lz, by rw [z5]; exact h2, h3, fun i a b => ?_⟩, hc.of2 ly y5 (fun i hi => ⟨yl _ (by omega) (by omega), fun k q1 q2 => yk k (by omega)⟩) (fun k hk => (yk k (by omega)).1), hS, fun i a b => ?_⟩
  · obtain ⟨⟨b', len, M, c1, c2⟩, c3⟩ := h4 i a b
    exact ⟨⟨b', len, M, c1.fmk lz (fun k q1 q2 => zk k (by omega)), c2⟩, fun s hs => by rw [zk 342 (by omega)]; exact c3 s hs⟩
  · obtain ⟨kb, c1, c2, c3, c4, c5, c6⟩ := hB i a b
    refine ⟨kb, by rw [yl _ (by omega) (by omega)]; exact c1, c2, by rw [(yk _ (by omega)).1]; exact c3, by rw [zk _ (by omega)]; exact c4, c5, fun p hp => ?_⟩
    rw [zk _ (by omega), rb_fr (yk kb (by omega)).1]
    exact c6 p hp
theorem mint_end (hL : Lay sh n z) (hC : Lay sh n y) (r1 : RLg z nc ac nr rs) (r2 : CLg y nc ac nr so) (hi : i < nc) (x : Int64) : ∃ z' y', fn_X11_mint_B72 F sh n 0 x y (nI i) = some (y', 1) ∧ fn_X18_mint_B81 F sh n 337 x z (nI i) = some (z', 1) ∧ RLg z' nc (fun j => if j = i then ((ac j).1, (ac j).2.1 + x, (ac j).2.2) else ac j) nr rs ∧ CLg y' nc (fun j => if j = i then ((ac j).1, (ac j).2.1 + x, (ac j).2.2) else ac j) nr so ∧ z'.2.2 = z.2.2 ∧ y'.2.2 = y.2.2 ∧ z'.1 = z.1 ∧ (∀ k, k ≠ 339 → k ≠ 337 → z'.2.1 k = z.2.1 k) ∧ (∀ j, j ≠ 20 → z'.2.1 337 j = z.2.1 337 j) ∧ z'.2.1 337 20 = z.2.1 337 20 + x ∧ (∀ k, k ≠ 73 → y'.1 k = y.1 k) ∧ y'.1 73 1 = 1 ∧ (∀ k, k ≠ 5 → k ≠ 3 → y'.2.1 k = y.2.1 k) ∧ (∀ j, j ≠ 14 → y'.2.1 3 j = y.2.1 3 j) ∧ y'.2.1 3 14 = y.2.1 3 14 + x := by
  have n256 := r1.1.2.1
  have S := b_state hC
  have G := b_ledg hC
  have oi : okI (nI i) 256 = true := okI_nI (by omega) (by omega)
  have ci : (nI i).toNatClampNeg = i := nI_clamp (by omega)
  obtain ⟨p1, p2, p3⟩ := r1.1.2.2 i hi
  obtain ⟨q1, q2, q3⟩ := r2.1.2.2 i hi
  refine ⟨sl (sl z 339 i ((ac i).2.1 + x)) 337 20 (z.2.1 337 20 + x), si (sl (sl y 5 i ((ac i).2.1 + x)) 3 14 (y.2.1 3 14 + x)) 73 1 1, ?_, ?_, ?_, ?_, rfl, rfl, rfl, fun k a b => ?_, fun j a => ?_, sl_ss, fun k a => ?_, si_ss, fun k a b => ?_, fun j a => ?_, ?_⟩
  · unfold fn_X11_mint_B72
    rw [G.2.2.2.1, lnk_s, S.1, grd_true, S.2.2.1, lnk_s, lay_a hC 5 102 256 (by decide) rfl, oi, grd_true, grd_true, ci, q2, lt_t, sl_3, G.2.2.2.1, lnk_s, S.1, grd_true, sl_ok (k' := 3) (by omega), lt_t, sl_3, sl_3, hC.2.2 0 10 73 rfl, lnk_s, (b_tree hC).1, grd_true, lt_t]
  · unfold fn_X18_mint_B81
    rw [(b_model hL).2.2.1, lnk_s, lay_a hL 339 102 256 (by decide) rfl, oi, grd_true, grd_true, ci, p2, lt_t, sl_ok (k' := 337) (by omega), lt_t]
  · refine r1.acc (fun k a b => ⟨rfl, ?_⟩) rfl rfl (fun j hj => ?_)
    · funext v; rw [sl_ok (by omega), sl_ok (by omega)]
    · obtain ⟨w1, w2, w3⟩ := r1.1.2.2 j hj
      by_cases c : j = i
      · subst c
        simp only [if_true]
        exact ⟨by rw [sl_ok (by omega), sl_ok (by omega)]; exact w1, by rw [sl_ok (by omega), sl_ss], by rw [sl_ok (by omega), sl_ok (by omega)]; exact w3⟩
      · simp only [if_neg c]
        exact ⟨by rw [sl_ok (by omega), sl_ok (by omega)]; exact w1, by rw [sl_ok (by omega), sl_oj c]; exact w2, by rw [sl_ok (by omega), sl_ok (by omega)]; exact w3⟩
  · have a0 : CLg (sl (sl y 5 i ((ac i).2.1 + x)) 3 14 (y.2.1 3 14 + x)) nc (fun j => if j = i then ((ac j).1, (ac j).2.1 + x, (ac j).2.2) else ac j) nr so := by
      refine r2.acc (fun k a => ⟨rfl, fun c => ?_⟩) (fun j hj => ?_)
      · funext v; rw [sl_ok c, sl_ok (by omega)]
      · obtain ⟨w1, w2, w3⟩ := r2.1.2.2 j hj
        by_cases c : j = i
        · subst c
          simp only [if_true]
          exact ⟨by rw [sl_ok (by omega), sl_ok (by omega)]; exact w1, by rw [sl_ok (by omega), sl_ss], by rw [sl_ok (by omega), sl_ok (by omega)]; exact w3⟩
        · simp only [if_neg c]
          exact ⟨by rw [sl_ok (by omega), sl_ok (by omega)]; exact w1, by rw [sl_ok (by omega), sl_oj c]; exact w2, by rw [sl_ok (by omega), sl_ok (by omega)]; exact w3⟩
    exact a0.of (fun k a b => ⟨si_ok (by omega), rfl⟩)
  · rw [sl_ok b, sl_ok a]
  · rw [sl_oj a, sl_ok (by omega)]
  · rw [si_ok a, sl_1, sl_1]
  · rw [si_2, sl_ok b, sl_ok a]
  · rw [si_2, sl_oj a, sl_ok (by omega)]
  · rw [si_2, sl_ss]
theorem m_mint (hF : 300 ≤ F) (y0 y1 : Int64) (hn : n ≤ 10 ^ 12) (h : Top RV sh n z y) : ∃ z' y' r, fn_X11_mint F sh n y 0 y0 y1 = some (y', r) ∧ fn_X18_mint F sh n z 337 y0 y1 = some (z', r) ∧ Top RV sh n z' y' := by
  have h0 := h
  obtain ⟨ws, wc, dp, bs, nc, ac, nr, rs, so, D, a1, ⟨⟨r1, r2, rp, uq, pl⟩, ⟨ld, d62⟩, ⟨m1, m2, m3⟩, sl6, sl8⟩, a3, ⟨cnt, dn, a4⟩, ⟨len, w, a5⟩, l2, a6⟩ := h
  have hL := a1.1.1
  have hC := a1.2.1.1
  unfold fn_X11_mint fn_X18_mint
  by_cases c0 : y1 < 0
  · rw [if_pos c0, if_pos c0]; exact ⟨_, _, _, rfl, rfl, h0⟩
  have S := b_state hC
  have G := b_ledg hC
  have e62 : (4611686018427387904 : Int64) = lN (2 ^ 62) := rfl
  rw [if_neg c0, if_neg c0, G.1, grd_true, G.2.2.2.1, lnk_s, S.1, grd_true, lnk_s, S.1, grd_true, ← m1, ← m2, m3, (b_model hL).1, grd_true, e62]
  obtain ⟨c, hc, e1⟩ : ∃ c, c < 2 ^ 63 ∧ y1 = lN c := by
    refine ⟨N y1, ?_, (lN_N y1).symm⟩
    rw [Int64.lt_iff_toInt_lt] at c0
    have : (0 : Int64).toInt = 0 := rfl
    have e : y1.toInt = y1.toBitVec.toInt := rfl
    have e2 := BitVec.toInt_eq_toNat_cond y1.toBitVec
    have e3 := N_lt y1
    unfold N at e3 ⊢
    split at e2 <;> omega
  subst e1
  have es : lN (2 ^ 62) - lN D = lN (2 ^ 62 - D) := by
    apply N_inj
    rw [N_sub, N_lN (by omega), N_lN (by omega), N_lN (by omega)]
    omega
  have ea : lN D + lN c = lN (D + c) := by
    apply N_inj
    unfold lN N
    rw [Int64.toBitVec_add]
    apply congrArg
    apply BitVec.eq_of_toNat_eq
    simp [BitVec.toNat_add, BitVec.toNat_ofNat]
  rw [es, ea]
  by_cases q : D + c < 2 ^ 62
  · have q1 : lN c < lN (2 ^ 62 - D) := (lNlt (2 ^ 62 - D) rfl (by omega) (by omega)).mpr (by omega)
    have q2 : ¬ lN (2 ^ 62) ≤ lN (D + c) := fun e => by
      have := (lNge (2 ^ 62) rfl (by omega) (by omega)).mp e
      omega
    have q3 : (0 : Int64) ≤ lN (D + c) := (lNge 0 rfl (by omega) (by omega)).mpr (by omega)
    rw [if_pos q1, if_neg q2, if_pos q3, lnk_s, S.1, grd_true, cfindA_t hF hC r2, cal_s, findA_t hF hL r1, cal_s]
    have fin : ∀ (z1 y1 : St) (nc1 i : Nat) (ac1 : Nat → Int64 × Int64 × Int64), RLg z1 nc1 ac1 nr rs → CLg y1 nc1 ac1 nr so → i < nc1 → z1.2.2 = z.2.2 → y1.2.2 = y.2.2 → (∀ k, k ≠ 337 → ¬ (338 ≤ k ∧ k ≤ 348 ∧ k ≠ 341 ∧ k ≠ 342) → z1.1 k = z.1 k ∧ z1.2.1 k = z.2.1 k) → (∀ j, j ≠ 3 → j ≠ 9 → j ≠ 14 → z1.1 337 j = z.1 337 j) → z1.2.1 337 = z.2.1 337 → (∀ k, ¬ (3 ≤ k ∧ k ≤ 14) → y1.1 k = y.1 k ∧ y1.2.1 k = y.2.1 k) → y1.1 3 5 = y.1 3 5 → y1.2.1 3 = y.2.1 3 → UqA nc1 ac1 → nc1 + wc + nr ≤ 256 → LdT (evW ws wc dp led0) (D + c) nc1 (fun j => if j = i then ((ac1 j).1, (ac1 j).2.1 + lN c, (ac1 j).2.2) else ac1 j) nr rs → ∃ z' y' r, fn_X11_mint_B72 F sh n 0 (lN c) y1 (nI i) = some (y', r) ∧ fn_X18_mint_B81 F sh n 337 (lN c) z1 (nI i) = some (z', r) ∧ Top RV sh n z' y' := by
      intro z1 y1 nc1 i ac1 g1 g2 g3 g4 g5 g6 g7 g8 g9 g10 g11 g12 g13 g14
      obtain ⟨z', y', b1, b2, b3, b4, b5, b6, b7, b8, b9, b10, b11, b12, b13, b14, b15⟩ := mint_end (F := F) (hL.of g4) (hC.of g5) g1 g2 g3 (lN c)
      have lz : Lay sh n z' := (hL.of g4).of b5
      have ly : Lay sh n y' := (hC.of g5).of b6
      have zk : ∀ k, k ≠ 337 → ¬ (338 ≤ k ∧ k ≤ 348 ∧ k ≠ 341 ∧ k ≠ 342) → z'.1 k = z.1 k ∧ z'.2.1 k = z.2.1 k := fun k a b => ⟨by rw [b7]; exact (g6 k a b).1, by rw [b8 k (by omega) a]; exact (g6 k a b).2⟩
      have yk : ∀ k, k ≠ 73 → ¬ (3 ≤ k ∧ k ≤ 14) → y'.1 k = y.1 k ∧ y'.2.1 k = y.2.1 k := fun k a b => ⟨by rw [b11 k a]; exact (g9 k b).1, by rw [b13 k (by omega) (by omega)]; exact (g9 k b).2⟩
      have ft : FzT z z' := fun k a b => zk k (by omega) (by omega)
      have gt : FyT y y' := ⟨b6.trans g5, fun k a => yk k (by omega) (by omega)⟩
      have z337 : ∀ j, j ≠ 3 → j ≠ 9 → j ≠ 14 → z'.1 337 j = z.1 337 j := fun j a b c => by rw [b7]; exact g7 j a b c
      refine ⟨z', y', 1, b1, b2, ws, wc, dp, bs, nc1, _, nr, rs, so, D + c, a1.of lz ly (z337 5 (by omega) (by omega) (by omega)) (fun k q => (zk k (by omega) (by omega)).1) (by rw [b11 3 (by omega)]; exact g10) (fun k _ _ => by rw [b6, g5]) (fun k q => yk k (by omega) (by omega)), ⟨⟨b3, b4, rp, ?_, g13⟩, ⟨g14, q⟩, ⟨?_, ?_, ?_⟩, ?_, ?_⟩, ?_, ⟨cnt, dn, a4.of (z337 52 (by omega) (by omega) (by omega)) (z337 53 (by omega) (by omega) (by omega)) (by rw [(yk 0 (by omega) (by omega)).1]) (by rw [(yk 0 (by omega) (by omega)).1]) (fun t _ => ft.e) (fun t _ => gt.e) (Nat.le_refl _) (fun _ _ => rfl) hn⟩, ⟨len, w, a5.of ⟨z337 50 (by omega) (by omega) (by omega), z337 51 (by omega) (by omega) (by omega), (zk 399 (by omega) (by omega)).1⟩ ⟨by rw [(yk 0 (by omega) (by omega)).1], by rw [(yk 0 (by omega) (by omega)).1], (yk 1 (by omega) (by omega)).1⟩⟩, l2, a6.of ⟨z337 75 (by omega) (by omega) (by omega), (zk 420 (by omega) (by omega)).1⟩ ⟨by rw [(yk 0 (by omega) (by omega)).1], (yk 86 (by omega) (by omega)).1⟩⟩
      · exact g12.set (fun j _ => by
          by_cases e : j = i
          · simp only [if_pos e]
          · simp only [if_neg e])
      · rw [b10, b15, g8, g11, m1]
      · rw [b9 21 (by omega), b14 15 (by omega), g8, g11, m2]
      · rw [b10, b9 21 (by omega), g8, ← ea, ← m3]
        rw [Int64.sub_eq_add_neg, Int64.sub_eq_add_neg, Int64.add_assoc, Int64.add_assoc, Int64.add_comm (lN c)]
      · rw [z337 22 (by omega) (by omega) (by omega), (yk 88 (by omega) (by omega)).1]; exact sl6
      · rw [(yk 88 (by omega) (by omega)).1]; exact sl8
      · intro e; rw [b12] at e; cases e
    cases e : fdA nc ac y0 with
    | some i =>
      have hi := fd_lt _ _ _ e
      have ni : (ac i).1 = y0 := by simpa using hi.2.2
      have n256 := r1.1.2.1
      rw [if_pos (oI0 i (by omega)).1, if_pos (oI0 i (by omega)).1]
      unfold fn_X18_mint_B66
      rw [if_pos (oI0 i (by omega)).1]
      refine fin z y nc i ac r1 r2 (by omega) rfl rfl (fun _ _ _ => ⟨rfl, rfl⟩) (fun _ _ _ _ => rfl) rfl (fun _ _ => ⟨rfl, rfl⟩) rfl rfl uq pl (ld.add y0 hc (fun j hj => .inl ⟨hj, ?_, fun k => ?_, fun k => ?_⟩))
      · by_cases e2 : j = i
        · simp only [if_pos e2]
        · simp only [if_neg e2]
      · rw [if_neg (fun e2 => k (by rw [e2]; exact ni))]
      · have : j = i := uq j i hj (by omega) (by rw [k, ni])
        rw [if_pos this]
    | none =>
      have no : ¬ (0 : Int32) ≤ oI none := by decide
      have pc : fn_X7_placeCount F sh n y 3 = some (y, nI (nc + wc + nr)) := by
        unfold fn_X7_placeCount
        rw [S.1, grd_true, r2.1.1, r2.2.1, a1.2.1.2.1, nI_add, nI_add]
      have pr : fn_X18_placeCount F sh n z 337 = some (z, nI (nc + wc + nr)) := by
        unfold fn_X18_placeCount
        rw [(b_model hL).1, grd_true, r1.1.1, r1.2.1, a1.1.2.1, nI_add, nI_add]
      rw [if_neg no, if_neg no, G.2.2.2.1, lnk_s, S.1, grd_true, pc, cal_s, pr, cal_s]
      by_cases p : nc + wc + nr = 256
      · rw [p, if_neg (by decide), if_pos (by decide)]; exact ⟨_, _, _, rfl, rfl, h0⟩
      · have p1 : nI (nc + wc + nr) < 256 := (nI_ltW (b := 256) (by omega) (by omega)).mpr (by omega)
        have p2 : ¬ nI (nc + wc + nr) = 256 := fun e => p (nI_uq (b := 256) e (by omega) (by omega))
        obtain ⟨y1, u1, u2, u3⟩ := copen_t (F := F) hC r2 (show nc < 256 by omega) (a := y0)
        obtain ⟨z1, v1, v2, v3⟩ := newA_t (F := F) hL r1 (show nc < 256 by omega) y0
        have nin : ∀ j, j < nc → (ac j).1 ≠ y0 := fun j hj w => by
          have := fd_no nc 0 e j (by omega) (by omega)
          simp [w] at this
        rw [if_pos p1, if_neg p2, G.2.2.2.1, lnk_s, S.1, grd_true, u1, cal_s]
        unfold fn_X18_mint_B66
        rw [if_neg no, v1, cal_s]
        have nn : ∀ j, j < nc → ¬ j = nc := fun j hj => by omega
        refine fin z1 y1 (nc + 1) nc _ v2 u2 (by omega) v3.1 u3.1 v3.2.1 v3.2.2.1 v3.2.2.2 u3.2.1 (u3.2.2.1 5 (by omega) (by omega)) u3.2.2.2.1 (fun i j h1 h2 h3 => ?_) (by omega) (ld.add y0 hc (fun j hj => ?_))
        · by_cases ei : i = nc
          · by_cases ej : j = nc
            · omega
            · rw [if_pos ei, if_neg ej] at h3
              exact absurd h3.symm (nin j (by omega))
          · by_cases ej : j = nc
            · rw [if_neg ei, if_pos ej] at h3
              exact absurd h3 (nin i (by omega))
            · rw [if_neg ei, if_neg ej] at h3
              exact uq i j (by omega) (by omega) h3
        · by_cases e2 : j = nc
          · refine .inr ?_
            simp only [if_pos e2]
            refine ⟨trivial, ?_⟩
            rw [N_add, N_lN hc]
            show (0 + c) % _ ≤ c
            omega
          · have := nin j (by omega)
            refine .inl ⟨by omega, ?_⟩
            simp only [if_neg e2]
            exact ⟨trivial, fun _ => trivial, fun w => absurd w this⟩
  · have q1 : ¬ lN c < lN (2 ^ 62 - D) := fun e => by
      have := (lNlt (2 ^ 62 - D) rfl (by omega) (by omega)).mp e
      omega
    rw [if_neg q1]
    by_cases q4 : D + c < 2 ^ 63
    · rw [if_pos ((lNge (2 ^ 62) rfl (by omega) (by omega)).mpr (by omega))]; exact ⟨_, _, _, rfl, rfl, h0⟩
    · by_cases q5 : lN (2 ^ 62) ≤ lN (D + c)
      · rw [if_pos q5]; exact ⟨_, _, _, rfl, rfl, h0⟩
      · rw [if_neg q5]
        have q6 : ¬ (0 : Int64) ≤ lN (D + c) := fun e => by
          rw [Int64.le_iff_toInt_le] at e
          have e3 : (lN (D + c)).toBitVec.toNat = D + c := by
            show (BitVec.ofNat 64 (D + c)).toNat = D + c
            rw [BitVec.toNat_ofNat]; omega
          have e4 : (lN (D + c)).toInt = (lN (D + c)).toBitVec.toInt := rfl
          have e2 := BitVec.toInt_eq_toNat_cond (lN (D + c)).toBitVec
          rw [e3] at e2
          have : (0 : Int64).toInt = 0 := rfl
          split at e2 <;> omega
        rw [if_neg q6]; exact ⟨_, _, _, rfl, rfl, h0⟩
end
