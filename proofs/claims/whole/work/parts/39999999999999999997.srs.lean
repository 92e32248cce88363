/-! THE CLASS'S READER: functions, one after the other -/
section
variable {F n : Nat} {sh : Nat → Nat × Nat} {z z' : St} {kp kb len : Nat} {b : Nat → Nat} {J : Bool} {r : Ex Nat} {ks js hs : List Nat} {Jo : Option JI}
theorem gIs_len {loc many : Nat} : ∀ (k : Nat) {p : Nat} {q : List Nat × Nat}, gIs b len Jo loc many k p = .ok q → q.1.length = k
  | 0, p, q, h => by cases h; rfl
  | k + 1, p, q, h => by
    unfold gIs at h
    obtain ⟨a, y1, h⟩ := bq_ok h
    obtain ⟨c, y2, h⟩ := bq_ok h
    cases h
    rw [List.length_cons, gIs_len k y2]
abbrev FrFn (kp : Nat) (z z' : St) : Prop := FrKd kp [kp + 2, kp + 4] [6] [0, 1, 3, 5, 6, 7] z z'
/-- what is done behind the count of instructions -/
theorem KX.b211_e (hF : 300 ≤ F) {e : Nat × Nat} (h : KX sh n z kp kb b len J (.error e)) {i : Nat} (hi : i < 96) {ko : St → Int32 → Option (St × Unit)} : ∃ z', fn_X6_readFunctions_B211 F sh n 60 (nI i) ko z = ko z' (nI i + 1) ∧ KX sh n z' kp kb b len J (.error e) ∧ (∀ x, x ≠ 9 * i + 5 → x ≠ 9 * i + 6 → z'.1 (kp + 4) x = z.1 (kp + 4) x) ∧ FrFn kp z z' := by
  obtain ⟨z1, a1, a2, a3, a4, a5⟩ := h.setF (F := F) (i := i) (c := 5) (ic := 5) rfl (by omega) (by omega) (z.1 kp 6)
  obtain ⟨z2, b1, b2, b3, b4, b5⟩ := a2.setF (F := F) (i := i) (c := 6) (ic := 6) rfl (by omega) (by omega) (z1.1 60 7)
  unfold fn_X6_readFunctions_B211
  refine ⟨z2, ?_, b2, fun x h1 h2 => by rw [b5 x h2, a5 x h1], (a3.mono (by simp) (by simp) (by simp)).trans (b3.mono (by simp) (by simp) (by simp))⟩
  rw [h.1.2.2.1, lnk_s, lnk_s, h.1.p, grd_true, grd_true, a1, cal_s, a3.1, h.1.2.2.1, lnk_s, h.1.p, grd_true, b1, cal_s, b2.l244_e (by omega)]
theorem KX.fnT (hF : 1100 ≤ F) (h : KX sh n z kp kb b len J r) (ej : Jo.isSome = J) {i v6 v10 : Nat} (hi : i < 64) (h6 : v6 ≤ 8) (h10 : v10 ≤ 32) {S : List Nat} (hT : ∀ p, r = .ok p → HG z kp Jo ∧ SrT z kp S ∧ S.length < p ∧ z.1 60 5 = nI S.length ∧ S.length ≤ 8192) {ko : St → Int32 → Option (St × Unit)} : ∃ z', lt_ (si z 60 6 (nI v6 + nI v10)) (fun z_59 => lt_ (z_59.1 60 3) (fun v_60 => cal (fn_X6_readShort F sh n z_59 60) (fun z_61 r_62 => lt_ (si z_61 60 7 r_62) (fun z_65 => lt_ (si z_65 60 5 ((z_65.1 60 5) + (z_65.1 60 7))) (fun z_67 => if ((z_67.1 60 7) : Int32) < 1 then fn_X6_readFunctions_B204 F sh n 60 v_60 (nI i) ko z_67 else if (1024 : Int32) < (z_67.1 60 7) then fn_X6_readFunctions_B204 F sh n 60 v_60 (nI i) ko z_67 else if ((z_67.1 60 5) : Int32) ≤ 8192 then fn_X6_readFunctions_B211 F sh n 60 (nI i) ko z_67 else fn_X6_readFunctions_B204 F sh n 60 v_60 (nI i) ko z_67))))) = ko z' (nI i + 1) ∧ KX sh n z' kp kb b len J (cu (r >>= fun p => sk len 2 p >>= fun s => if shB b p < 1 ∨ 1024 < shB b p ∨ 8192 < S.length + shB b p then .error (3, p) else gIs b len Jo (v6 + v10) (shB b p) (shB b p) s.2)) ∧ (∀ q, (r >>= fun p => sk len 2 p >>= fun s => if shB b p < 1 ∨ 1024 < shB b p ∨ 8192 < S.length + shB b p then .error (3, p) else gIs b len Jo (v6 + v10) (shB b p) (shB b p) s.2) = .ok q → SrT z' kp (S ++ q.1) ∧ (S ++ q.1).length < q.2 ∧ z'.1 60 5 = nI (S ++ q.1).length ∧ (S ++ q.1).length ≤ 8192 ∧ z'.1 (kp + 4) (9 * i + 5) = nI S.length ∧ z'.1 (kp + 4) (9 * i + 6) = nI q.1.length) ∧ (∀ x, x ≠ 9 * i + 5 → x ≠ 9 * i + 6 → z'.1 (kp + 4) x = z.1 (kp + 4) x) ∧ FrFn kp z z' := by
  have hk := isP_ne h.1.2.1
  have fa : FrFn kp z (si z 60 6 (nI v6 + nI v10)) := FrKd.si60 h.1.ne (by simp)
  have k1 : KX sh n (si z 60 6 (nI v6 + nI v10)) kp kb b len J r := h.fr (FrKd.si60 (ks := []) (js := []) (hs := [6]) h.1.ne (by simp)) (by simp) (by simp) (by simp)
  rw [lt_t, lt_t]
  obtain ⟨z1, v, a1, a2, a3, a4, a5⟩ := k1.short (F := F)
  rw [a1, cal_s, lt_t, lt_t]
  have e7 : (si z1 60 7 (nI v)).1 60 7 = nI v := si_ss
  have fb : FrKd kp [] [] [5, 7] z1 (si (si z1 60 7 (nI v)) 60 5 ((si z1 60 7 (nI v)).1 60 5 + (si z1 60 7 (nI v)).1 60 7)) := (FrKd.si60 h.1.ne (by simp)).trans (FrKd.si60 h.1.ne (by simp))
  generalize ey : si (si z1 60 7 (nI v)) 60 5 ((si z1 60 7 (nI v)).1 60 5 + (si z1 60 7 (nI v)).1 60 7) = y at fb
  have y7 : y.1 60 7 = nI v := by rw [← ey, si_oj (by omega)]; exact e7
  have y5 : y.1 60 5 = z1.1 60 5 + nI v := by rw [← ey, si_ss, e7, si_oj (by omega)]
  have ky := a4.fr fb (by simp) (by simp) (by simp)
  have fy : FrFn kp z y := (fa.trans (a5.g (by simp))).trans (fb.mono (by simp) (by simp) (by simp))
  have ry : ∀ x, y.1 (kp + 4) x = z.1 (kp + 4) x := fun x => by
    rw [fb.2.1 (kp + 4) (by omega) (by omega) (by simp), a5.2.1 (kp + 4) (by omega) (by omega) (by simp), si_ok (by omega)]
  -- behind a fault
  have err : ∀ e, KX sh n y kp kb b len J (.error e) → ∀ w, ∃ z', (if ((y.1 60 7) : Int32) < 1 then fn_X6_readFunctions_B204 F sh n 60 w (nI i) ko y else if (1024 : Int32) < (y.1 60 7) then fn_X6_readFunctions_B204 F sh n 60 w (nI i) ko y else if ((y.1 60 5) : Int32) ≤ 8192 then fn_X6_readFunctions_B211 F sh n 60 (nI i) ko y else fn_X6_readFunctions_B204 F sh n 60 w (nI i) ko y) = ko z' (nI i + 1) ∧ KX sh n z' kp kb b len J (.error e) ∧ (∀ x, x ≠ 9 * i + 5 → x ≠ 9 * i + 6 → z'.1 (kp + 4) x = z.1 (kp + 4) x) ∧ FrFn kp z z' := fun e he w => by
    obtain ⟨z2, b1, b2, b3, b4⟩ := he.b211_e (F := F) (by omega) (i := i) (by omega) (ko := ko)
    have b204 : fn_X6_readFunctions_B204 F sh n 60 w (nI i) ko y = ko z2 (nI i + 1) := by
      unfold fn_X6_readFunctions_B204
      rw [he.fail_e, cal_s]
      exact b1
    refine ⟨z2, ?_, b2, fun x h1 h2 => (b3 x h1 h2).trans (ry x), fy.trans b4⟩
    rw [b204, b1, ite_self, ite_self, ite_self]
  cases r with
  | error e =>
    obtain ⟨z2, b1, b2, b3, b4⟩ := err e ky ((si z 60 6 (nI v6 + nI v10)).1 60 3)
    exact ⟨z2, b1, b2, fun q y => (by cases y), b3, b4⟩
  | ok p =>
    obtain ⟨hG, T, hS, e5, s8⟩ := hT p rfl
    rw [ok_bq] at ky
    rw [ok_bq]
    cases e : sk len 2 p with
    | error w =>
      rw [e] at ky
      obtain ⟨z2, b1, b2, b3, b4⟩ := err w ky ((si z 60 6 (nI v6 + nI v10)).1 60 3)
      exact ⟨z2, b1, b2, fun q y => (by cases y), b3, b4⟩
    | ok s =>
      have sl := sk_ok e
      have es := sk_i e
      subst es
      rw [e] at ky
      have ky' : KX sh n y kp kb b len J (.ok (p + 2)) := ky
      have ev := a3 p rfl sl.1
      subst ev
      rw [ok_bq]
      have hy5 : y.1 60 5 = nI (S.length + shB b p) := by
        rw [y5, a5.2.2.2.2 5 (by simp), si_oj (by omega), e5, nI_add]
      have n1 : (y.1 60 7 < 1) ↔ shB b p < 1 := by rw [y7]; exact nIlt 1 rfl (by omega) (by omega)
      have n2 : (1024 < y.1 60 7) ↔ 1024 < shB b p := by rw [y7]; exact nIgt 1024 rfl (by omega) (by omega)
      have n3 : (y.1 60 5 ≤ 8192) ↔ S.length + shB b p ≤ 8192 := by rw [hy5]; exact nIle 8192 rfl (by omega) (by omega)
      by_cases bad : shB b p < 1 ∨ 1024 < shB b p ∨ 8192 < S.length + shB b p
      · obtain ⟨z2, f1, f2, f3⟩ := ky'.fail (F := F) (w := 3) (f := fun _ => p) (iw := 3) (x := (si z 60 6 (nI v6 + nI v10)).1 60 3) rfl (fun _ _ => by rw [si_oj (by omega)]; exact h.2.1) (by omega) (by omega)
        have f2' : KX sh n z2 kp kb b len J (.error (3, p)) := f2
        obtain ⟨z3, b1, b2, b3, b4⟩ := f2'.b211_e (F := F) (by omega) (i := i) (by omega) (ko := ko)
        have b204 : fn_X6_readFunctions_B204 F sh n 60 ((si z 60 6 (nI v6 + nI v10)).1 60 3) (nI i) ko y = ko z3 (nI i + 1) := by
          unfold fn_X6_readFunctions_B204
          rw [f1, cal_s]
          exact b1
        rw [if_pos bad]
        refine ⟨z3, ?_, b2, fun q y => (by cases y), fun x h1 h2 => ?_, (fy.trans (f3.g (by simp))).trans b4⟩
        · rw [b204]
          by_cases c1 : shB b p < 1
          · rw [if_pos (n1.mpr c1)]
          rw [if_neg (fun y => c1 (n1.mp y))]
          by_cases c2 : 1024 < shB b p
          · rw [if_pos (n2.mpr c2)]
          rw [if_neg (fun y => c2 (n2.mp y)), if_neg (fun y => by have := n3.mp y; omega)]
        · rw [b3 x h1 h2, f3.2.1 (kp + 4) (by omega) (by omega) (by simp), ry]
      · rw [if_neg bad, if_neg (fun y => bad (.inl (n1.mp y))), if_neg (fun y => bad (.inr (.inl (n2.mp y)))), if_pos (n3.mpr (by omega))]
        obtain ⟨z2, b1, b2, b3, b4, b5⟩ := ky'.setF (F := F) (i := i) (c := 5) (ic := 5) rfl (by omega) (by omega) (y.1 kp 6)
        obtain ⟨z3, c1, c2, c3, c4, c5⟩ := b2.setF (F := F) (i := i) (c := 6) (ic := 6) rfl (by omega) (by omega) (z2.1 60 7)
        have f3 : FrFn kp z z3 := (fy.trans (b3.mono (by simp) (by simp) (by simp))).trans (c3.mono (by simp) (by simp) (by simp))
        have z37 : z3.1 60 7 = nI (shB b p) := by rw [c3.2.2.2.2 7 (by simp), b3.2.2.2.2 7 (by simp)]; exact y7
        have z36 : z3.1 60 6 = nI (v6 + v10) := by
          rw [c3.2.2.2.2 6 (by simp), b3.2.2.2.2 6 (by simp), fb.2.2.2.2 6 (by simp), a5.2.2.2.2 6 (by simp), si_ss, nI_add]
        have g3 : HG z3 kp Jo := hG.fr ⟨hk.2, hk.1⟩ f3 (by simp) (by simp)
        have t3 : SrT z3 kp S := by
          have x1 : SrT (si z 60 6 (nI v6 + nI v10)) kp S := T.fr ⟨hk.2, hk.1⟩ (FrKd.si60 (ks := []) (js := []) (hs := [6]) h.1.ne (by simp)) (by simp) (by simp)
          exact (((x1.fr ⟨hk.2, hk.1⟩ a5 (by simp) (by simp)).fr ⟨hk.2, hk.1⟩ fb (by simp) (by simp)).fr ⟨hk.2, hk.1⟩ b3 (by simp) (by simp)).fr ⟨hk.2, hk.1⟩ c3 (by simp) (by simp)
        have sb : shB b p < 2 ^ 20 := by omega
        obtain ⟨z4, d1, d2, d3, d4⟩ := KX.instrs (F := F) (by omega) ej (loc := v6 + v10) (many := shB b p) (x := nI i) (ko := ko) (shB b p) 0 F z3 (p + 2) S (by omega) (by omega) c2 ⟨z36, by omega, z37, sb, g3.1, g3.2⟩ t3 (by omega)
        refine ⟨z4, ?_, d2, fun q yq => ?_, fun x h1 h2 => ?_, f3.trans (d4.mono (by simp) (by simp) (by simp))⟩
        · unfold fn_X6_readFunctions_B211
          rw [ky'.1.2.2.1, lnk_s, lnk_s, ky'.1.p, grd_true, grd_true, b1, cal_s, b3.1, ky'.1.2.2.1, lnk_s, ky'.1.p, grd_true, c1, cal_s]
          exact d1
        · have dl := d3 q yq
          have ql := gIs_len _ yq
          refine ⟨dl.1, dl.2, ?_, ?_, ?_, ?_⟩
          · rw [d4.2.2.2.2 5 (by simp), c3.2.2.2.2 5 (by simp), b3.2.2.2.2 5 (by simp), hy5, List.length_append, ql]
          · rw [List.length_append, ql]; omega
          · rw [d4.2.1 (kp + 4) (by omega) (by omega) (by simp), c5 _ (by omega), b4, fb.2.2.2.1 6 (by simp), a5.2.2.2.1 6 (by simp), si_ok (by omega)]
            exact T.1
          · rw [d4.2.1 (kp + 4) (by omega) (by omega) (by simp), c4, b3.2.2.2.2 7 (by simp), y7, ql]
        · rw [d4.2.1 (kp + 4) (by omega) (by omega) (by simp), c5 _ h2, b5 _ h1, ry]
end
