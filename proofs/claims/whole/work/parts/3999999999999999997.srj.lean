/-! THE CLASS'S READER: a type, a list of types -/
section
variable {F n : Nat} {sh : Nat → Nat × Nat} {z z' : St} {kp kb len : Nat} {b : Nat → Nat} {J : Bool} {r : Ex Nat} {ks js hs : List Nat}
theorem KX.b91 (h : KX sh n z kp kb b len J r) {jo : Option Nat} (ej : jo.isSome = J) (hj : ∀ m, jo = some m → z.1 kp 9 = nI m ∧ m < 256) {t : Ty} {w c : Nat} (hc : c < 256) {v : Int64} {x : Int32} (hv : ∀ p, r = .ok p → v = tL t ∧ x = nI w) (ht : tV t < 2 ^ 47) : ∃ z' y, fn_X6_readOneType_B91 F sh n 60 z v x (nI c) = some (z', y) ∧ KX sh n z' kp kb b len J (cu (r >>= fun p => rTe b len jo t w c p)) ∧ (∀ q, (r >>= fun p => rTe b len jo t w c p) = .ok q → y = tL q.1) ∧ FC kp z z' := by
  unfold fn_X6_readOneType_B91 rTe
  by_cases cc : c < 1 ∨ 6 < c
  · have e104 : ∃ z' y, fn_X6_readOneType_B104 F sh n 60 x v (nI c) z = some (z', y) ∧ KX sh n z' kp kb b len J (r >>= fun _ => .error (4, w)) ∧ FC kp z z' := by
      obtain ⟨z1, s1, s2, s3⟩ := h.fail (F := F) (w := 4) (f := fun _ => w) (iw := 4) (x := x) rfl (fun p e => (hv p e).2) (by omega) (by omega)
      unfold fn_X6_readOneType_B104 fn_X6_readOneType_B111
      rw [s1, cal_s, lt_t, if_neg (fun y => by have := (nIe (x := 6) 6 rfl (by omega) (by omega)).mp y; omega)]
      exact ⟨z1, _, rfl, s2, s3⟩
    obtain ⟨z1, y, s1, s2, s3⟩ := e104
    refine ⟨z1, y, ?_, ?_, ?_, s3⟩
    · by_cases d : c < 1
      · rw [if_pos ((nIlt (x := 1) 1 rfl (by omega) (by omega)).mpr d)]; exact s1
      · rw [if_neg (fun y => d ((nIlt (x := 1) 1 rfl (by omega) (by omega)).mp y)), if_neg (fun y => by have := (nIle (x := 6) 6 rfl (by omega) (by omega)).mp y; omega)]; exact s1
    · cases r with
      | error e => exact s2
      | ok p => rw [ok_bq, if_pos cc]; exact s2
    · intro q e
      cases r with
      | error e' => cases e
      | ok p => rw [ok_bq, if_pos cc] at e; cases e
  · rw [if_neg (fun y => by have := (nIlt (x := 1) 1 rfl (by omega) (by omega)).mp y; omega), if_pos ((nIle (x := 6) 6 rfl (by omega) (by omega)).mpr (show c ≤ 6 by omega))]
    obtain ⟨z1, y, s1, s2, s3, s4⟩ := h.b111 (F := F) ej hj hc (fun p e => (hv p e).1) ht
    refine ⟨z1, y, s1, ?_, ?_, s4⟩
    · cases r with
      | error e => exact s2
      | ok p => rw [ok_bq, if_neg cc]; exact s2
    · intro q e
      cases r with
      | error e' => cases e
      | ok p => rw [ok_bq, if_neg cc] at e; exact s3 q e
theorem KX.l51 {jo : Option Nat} (ej : jo.isSome = J) : ∀ m k g z r v x t w c, k + m = 4 → m < g → KX sh n z kp kb b len J r → (∀ m, jo = some m → z.1 kp 9 = nI m ∧ m < 256) → c < 256 → (∀ p, r = .ok p → v = tL t ∧ x = nI w) → tV t < 256 ^ (k + 1) → ∃ z' y, fn_X6_readOneType_L51 F sh n 60 g z v x (nI c) (nI k) = some (z', y) ∧ KX sh n z' kp kb b len J (cu (r >>= fun p => rTv b len jo m t w c p)) ∧ (∀ q, (r >>= fun p => rTv b len jo m t w c p) = .ok q → y = tL q.1) ∧ FC kp z z' := by
  intro m
  induction m with
  | zero =>
    intro k g z r v x t w c ek hg h hj hc hv ht
    obtain ⟨g, rfl⟩ : ∃ q, g = q + 1 := ⟨g - 1, by omega⟩
    have e4 : k = 4 := by omega
    subst e4
    unfold fn_X6_readOneType_L51
    rw [if_pos (show (4 : Int32) ≤ nI 4 by decide)]
    have p40 : (256 : Nat) ^ (4 + 1) = 2 ^ 40 := by decide
    exact h.b91 ej hj hc hv (by omega)
  | succ m ih =>
    intro k g z r v x t w c ek hg h hj hc hv ht
    obtain ⟨g, rfl⟩ : ∃ q, g = q + 1 := ⟨g - 1, by omega⟩
    have p5 : (256 : Nat) ^ (k + 1) ≤ 2 ^ 32 := by
      have : (256 : Nat) ^ (k + 1) ≤ 256 ^ 4 := Nat.pow_le_pow_right (by omega) (by omega)
      have e : (256 : Nat) ^ 4 = 2 ^ 32 := by decide
      omega
    unfold fn_X6_readOneType_L51 rTv
    rw [if_neg (fun y => by have := (nIge (x := 4) 4 rfl (by omega) (by omega)).mp y; omega)]
    by_cases c7 : c = 7
    · subst c7
      rw [if_pos (show nI 7 = 7 from rfl), lt_t, lt_t]
      obtain ⟨z1, q1, q2, q3⟩ := h.byte (F := F)
      have l1 := vN_lt h
      rw [q1, cal_s, nI_1]
      have p6 : (256 : Nat) ^ (k + 1 + 1) = 256 ^ (k + 1) * 256 := Nat.pow_succ _ _
      cases r with
      | error e =>
        obtain ⟨z2, y, s1, s2, s3, s4⟩ := ih (k + 1) g z1 (.error e) ((v <<< ((8 : Int32).toInt64 &&& 63)) ||| (nI 7).toInt64) (z.1 60 3) (t ++ [7]) w (vN ((Except.error e : Ex Nat) >>= rBy b len)) (by omega) (by omega) q2 (fun m e => by rw [q3.2.2.2.1 9 (by simp)]; exact hj m e) l1 (fun p e => by cases e) (by rw [tV_app]; omega)
        exact ⟨z2, y, s1, s2, s3, q3.trans s4⟩
      | ok p =>
        have hv' := hv p rfl
        have o8 : (v <<< ((8 : Int32).toInt64 &&& 63)) ||| (nI 7).toInt64 = tL (t ++ [7]) := by
          rw [hv'.1]; unfold tL; rw [or8L (by omega) (by omega), tV_app]
        obtain ⟨z2, y, s1, s2, s3, s4⟩ := ih (k + 1) g z1 (cu (.ok p >>= rBy b len)) ((v <<< ((8 : Int32).toInt64 &&& 63)) ||| (nI 7).toInt64) (z.1 60 3) (t ++ [7]) p (vN (.ok p >>= rBy b len)) (by omega) (by omega) q2 (fun m e => by rw [q3.2.2.2.1 9 (by simp)]; exact hj m e) l1 (fun p' e => ⟨o8, h.2.1⟩) (by rw [tV_app]; omega)
        have er : (cu (.ok p >>= rBy b len) >>= fun p' => rTv b len jo m (t ++ [7]) p (vN (.ok p >>= rBy b len)) p') = (rBy b len p >>= fun q => rTv b len jo m (t ++ [7]) p q.1 q.2) := by
          rw [ok_bq]
          cases rBy b len p <;> rfl
        rw [er] at s2 s3
        refine ⟨z2, y, s1, ?_, ?_, q3.trans s4⟩
        · rw [ok_bq, if_pos rfl]; exact s2
        · intro q e; rw [ok_bq, if_pos rfl] at e; exact s3 q e
    · rw [if_neg (fun y => c7 ((nIe (x := 7) 7 rfl (by omega) (by omega)).mp y))]
      obtain ⟨z1, y, s1, s2, s3, s4⟩ := h.b91 (F := F) ej hj hc hv (by omega)
      refine ⟨z1, y, s1, ?_, ?_, s4⟩
      · cases r with
        | error e => exact s2
        | ok p => rw [ok_bq, if_neg c7]; exact s2
      · intro q e
        cases r with
        | error e' => cases e
        | ok p => rw [ok_bq, if_neg c7] at e; exact s3 q e
theorem KX.oneType (hF : 300 ≤ F) {p : Nat} (h : KX sh n z kp kb b len J (.ok p)) {jo : Option Nat} (ej : jo.isSome = J) (hj : ∀ m, jo = some m → z.1 kp 9 = nI m ∧ m < 256) {rf : Bool} : ∃ z' y, fn_X6_readOneType F sh n z 60 (bI rf) = some (z', y) ∧ KX sh n z' kp kb b len J (cu (rT b len jo rf p)) ∧ (∀ q, rT b len jo rf p = .ok q → y = tL q.1) ∧ FC kp z z' := by
  unfold fn_X6_readOneType rT
  obtain ⟨z1, q1, q2, q3⟩ := h.byte (F := F)
  have l1 := vN_lt h
  rw [h.1.o, grd_true, lt_t, q1, cal_s]
  rw [ok_bq] at q2 l1 ⊢
  have hj1 : ∀ m, jo = some m → z1.1 kp 9 = nI m ∧ m < 256 := fun m e => by rw [q3.2.2.2.1 9 (by simp)]; exact hj m e
  cases e : rBy b len p with
  | error w =>
    rw [e] at q2
    have q2' : KX sh n z1 kp kb b len J (.error w) := q2
    obtain ⟨z2, y, s1, s2, s3, s4⟩ := KX.l51 (F := F) ej 4 0 F z1 (.error w) 0 (z.1 60 3) [] 0 0 (by omega) (by omega) q2' hj1 (by omega) (fun p e => by cases e) (by decide)
    show ∃ z' y, (if bI rf = 0 then fn_X6_readOneType_B48 F sh n 60 z1 0 (z.1 60 3) (nI 0) else if nI 0 = 8 then fn_X6_readOneType_B32 F sh n (nI 0) 60 z1 else if nI 0 = 9 then fn_X6_readOneType_B32 F sh n (nI 0) 60 z1 else fn_X6_readOneType_B48 F sh n 60 z1 0 (z.1 60 3) (nI 0)) = some (z', y) ∧ KX sh n z' kp kb b len J (.error w) ∧ _
    rw [if_neg (show ¬ nI 0 = 8 by decide), if_neg (show ¬ nI 0 = 9 by decide), ite_self]
    exact ⟨z2, y, s1, s2, fun q e => (by cases e), q3.trans s4⟩
  | ok q =>
    obtain ⟨c1, c2⟩ := rBy_ok e
    subst c2
    rw [e] at q2 l1
    have q2' : KX sh n z1 kp kb b len J (.ok (p + 1)) := q2
    have l1' : b p < 256 := l1
    obtain ⟨z2, y, s1, s2, s3, s4⟩ := KX.l51 (F := F) ej 4 0 F z1 (.ok (p + 1)) 0 (z.1 60 3) [] p (b p) (by omega) (by omega) q2' hj1 l1' (fun p' e => ⟨rfl, h.2.1⟩) (by decide)
    have n8 : (nI (b p) = 8) ↔ b p = 8 := nIe 8 rfl (by omega) (by omega)
    have n9 : (nI (b p) = 9) ↔ b p = 9 := nIe 9 rfl (by omega) (by omega)
    show ∃ z' y, (if bI rf = 0 then fn_X6_readOneType_B48 F sh n 60 z1 0 (z.1 60 3) (nI (b p)) else if nI (b p) = 8 then fn_X6_readOneType_B32 F sh n (nI (b p)) 60 z1 else if nI (b p) = 9 then fn_X6_readOneType_B32 F sh n (nI (b p)) 60 z1 else fn_X6_readOneType_B48 F sh n 60 z1 0 (z.1 60 3) (nI (b p))) = some (z', y) ∧ KX sh n z' kp kb b len J (cu (if (rf && (b p == 8 || b p == 9)) = true then rBy b len (p + 1) >>= fun r => rTv b len jo 4 [b p] (p + 1) r.1 r.2 else rTv b len jo 4 [] p (b p) (p + 1))) ∧ (∀ q, (if (rf && (b p == 8 || b p == 9)) = true then rBy b len (p + 1) >>= fun r => rTv b len jo 4 [b p] (p + 1) r.1 r.2 else rTv b len jo 4 [] p (b p) (p + 1)) = .ok q → y = tL q.1) ∧ FC kp z z'
    by_cases cr : (rf && (b p == 8 || b p == 9)) = true
    · rw [if_pos cr]
      simp at cr
      obtain ⟨r1, r2⟩ := cr
      subst r1
      have e32 : (if bI true = 0 then fn_X6_readOneType_B48 F sh n 60 z1 0 (z.1 60 3) (nI (b p)) else if nI (b p) = 8 then fn_X6_readOneType_B32 F sh n (nI (b p)) 60 z1 else if nI (b p) = 9 then fn_X6_readOneType_B32 F sh n (nI (b p)) 60 z1 else fn_X6_readOneType_B48 F sh n 60 z1 0 (z.1 60 3) (nI (b p))) = fn_X6_readOneType_B32 F sh n (nI (b p)) 60 z1 := by
        rw [if_neg (show ¬ bI true = 0 by decide)]
        rcases r2 with r2 | r2
        · rw [if_pos (n8.mpr r2)]
        · rw [if_neg (fun y => by have := n8.mp y; omega), if_pos (n9.mpr r2)]
      rw [e32]
      unfold fn_X6_readOneType_B32 fn_X6_readOneType_B48
      obtain ⟨z3, u1, u2, u3⟩ := q2'.byte (F := F)
      have l3 := vN_lt q2'
      rw [lt_t, lt_t, u1, cal_s]
      have hj3 : ∀ m, jo = some m → z3.1 kp 9 = nI m ∧ m < 256 := fun m e => by rw [u3.2.2.2.1 9 (by simp)]; exact hj1 m e
      have tl : (nI (b p)).toInt64 = tL [b p] := by
        rw [nI_l (by omega)]; unfold tL tV; congr 1; simp [tV]
      obtain ⟨z4, y4, s1, s2, s3, s4⟩ := KX.l51 (F := F) ej 4 0 F z3 (cu (.ok (p + 1) >>= rBy b len)) ((nI (b p)).toInt64) (z1.1 60 3) [b p] (p + 1) (vN (.ok (p + 1) >>= rBy b len)) (by omega) (by omega) u2 hj3 l3 (fun p' e => ⟨tl, q2'.2.1⟩) (by simp [tV]; exact l1')
      have er : (cu (.ok (p + 1) >>= rBy b len) >>= fun p' => rTv b len jo 4 [b p] (p + 1) (vN (.ok (p + 1) >>= rBy b len)) p') = (rBy b len (p + 1) >>= fun q => rTv b len jo 4 [b p] (p + 1) q.1 q.2) := by
        rw [ok_bq]
        cases rBy b len (p + 1) <;> rfl
      rw [er] at s2 s3
      exact ⟨z4, y4, s1, s2, s3, q3.trans (u3.trans s4)⟩
    · rw [if_neg cr]
      have e48 : (if bI rf = 0 then fn_X6_readOneType_B48 F sh n 60 z1 0 (z.1 60 3) (nI (b p)) else if nI (b p) = 8 then fn_X6_readOneType_B32 F sh n (nI (b p)) 60 z1 else if nI (b p) = 9 then fn_X6_readOneType_B32 F sh n (nI (b p)) 60 z1 else fn_X6_readOneType_B48 F sh n 60 z1 0 (z.1 60 3) (nI (b p))) = fn_X6_readOneType_B48 F sh n 60 z1 0 (z.1 60 3) (nI (b p)) := by
        simp at cr
        cases rf with
        | false => rw [if_pos (show bI false = 0 from rfl)]
        | true =>
          have cr' := cr rfl
          rw [if_neg (show ¬ bI true = 0 by decide), if_neg (fun y => cr'.1 (n8.mp y)), if_neg (fun y => cr'.2 (n9.mp y))]
      rw [e48]
      exact ⟨z2, y, s1, s2, s3, q3.trans s4⟩
/-- the program's types -/
def TyT (z : St) (kp : Nat) (T : List Ty) : Prop := z.1 kp 4 = nI T.length ∧ ∀ j, j < T.length → z.2.1 (kp + 1) j = tL (T.getD j [])
theorem KB.addType (h : KB sh n z kp kb b len J) {tc : Nat} (e4 : z.1 kp 4 = nI tc) (hc : tc ≤ 2048) (v : Int64) : ∃ z', fn_X5_addType F sh n z kp v = some (z', ()) ∧ FrKd kp [kp + 1] [4] [] z z' ∧ (tc < 2048 → z'.1 kp 4 = nI (tc + 1) ∧ z'.2.1 (kp + 1) tc = v ∧ ∀ j, j ≠ tc → z'.2.1 (kp + 1) j = z.2.1 (kp + 1) j) := by
  obtain ⟨a0, a1, a2, a3, a4, a5, a6, a7, a8⟩ := b_prog h.1 h.2.1
  have pn := isP_ne h.2.1
  have s1 : sh (kp + 1) = (102, 2048) := by
    obtain ⟨i, hi, rfl⟩ := h.2.1
    rw [h.1.2.1 _ (by omega)]; exact b_prog_s1 i hi
  have o1 : okO sh n (kp + 1) 102 = true := lay_o h.1 (kp + 1) 102 2048 (by omega) (by rw [← h.1.2.1 _ (by omega)]; exact s1)
  unfold fn_X5_addType
  rw [a0, grd_true, a1, lnk_s, o1, grd_true, s1, e4, lnk_s, lt_t, nI_1, lt_t, a5, lt_t]
  show ∃ z', (if nI 2048 ≤ nI tc then _ else _) = _ ∧ _
  by_cases c : 2048 ≤ tc
  · rw [if_pos ((nI_leI (by omega) (by omega)).mpr c)]
    exact ⟨z, rfl, FrKd.rfl', fun y => absurd y (by omega)⟩
  · rw [if_neg (fun y => c ((nI_leI (by omega) (by omega)).mp y)), okI_nI (show tc < 2048 by omega) (by omega), grd_true, nI_clamp (by omega)]
    refine ⟨_, rfl, (FrKd.siP h.ne (by simp)).trans (FrKd.slK (by simp)), fun _ => ⟨?_, ?_, ?_⟩⟩
    · show (si z kp 4 (nI (tc + 1))).1 kp 4 = _
      exact si_ss
    · exact sl_ss
    · intro j hj
      rw [sl_oj hj]; rfl
theorem KX.types {jo : Option Nat} (hF : 300 ≤ F) (ej : jo.isSome = J) {cnt : Nat} (hcnt : cnt < 256) {rf : Bool} : ∀ m i g z r T, i + m = cnt → m < g → KX sh n z kp kb b len J r → (∀ m, jo = some m → z.1 kp 9 = nI m ∧ m < 256) → (∀ p, r = .ok p → TyT z kp T ∧ T.length ≤ p) → ∃ z', fn_X6_readTypes_L2 F sh n (nI cnt) 60 (bI rf) g z (nI i) = some (z', ()) ∧ KX sh n z' kp kb b len J (cu (r >>= pTs b len jo rf m)) ∧ (∀ q, (r >>= pTs b len jo rf m) = .ok q → TyT z' kp (T ++ q.1) ∧ (T ++ q.1).length ≤ q.2) ∧ FrKd kp [kp + 1] [4] [0, 1, 3] z z' := by
  intro m
  induction m with
  | zero =>
    intro i g z r T ei hg h hj hT
    obtain ⟨g, rfl⟩ : ∃ q, g = q + 1 := ⟨g - 1, by omega⟩
    unfold fn_X6_readTypes_L2
    rw [if_pos ((nI_leI (by omega) (by omega)).mpr (by omega))]
    refine ⟨z, rfl, ?_, ?_, FrKd.rfl'⟩
    · cases r with
      | error e => exact h
      | ok p => exact h
    · intro q e
      cases r with
      | error e' => cases e
      | ok p =>
        rw [ok_bq] at e
        cases e
        simp only [List.append_nil]
        exact hT p rfl
  | succ m ih =>
    intro i g z r T ei hg h hj hT
    obtain ⟨g, rfl⟩ : ∃ q, g = q + 1 := ⟨g - 1, by omega⟩
    unfold fn_X6_readTypes_L2
    rw [if_neg (fun y => by have := (nI_leI (by omega) (by omega)).mp y; omega), h.1.o, grd_true]
    cases r with
    | error e =>
      rw [if_neg h.ne0]
      exact ⟨z, rfl, h, fun q y => (by cases y), FrKd.rfl'⟩
    | ok p =>
      obtain ⟨z1, y, s1, s2, s3, s4⟩ := h.oneType (F := F) hF ej hj (rf := rf)
      obtain ⟨t1, t2⟩ := hT p rfl
      have pl := h.2.2.1
      have l8 := h.1.2.2.2.2.2.2.1
      have e4 : z1.1 kp 4 = nI T.length := by rw [s4.2.2.2.1 4 (by simp)]; exact t1.1
      obtain ⟨z2, u1, u2, u3⟩ := s2.1.addType (F := F) e4 (by omega) y
      have k2 := s2.fr u2 (by have := isP_ne h.1.2.1; simp; omega) (by simp) (by simp)
      rw [if_pos h.is0, h.1.2.2.1, lnk_s, s1, cal_s, h.1.p, grd_true, u1, cal_s, nI_1, ok_bq]
      have f2 : FrKd kp [kp + 1] [4] [0, 1, 3] z z2 := (s4.g (by simp)).trans (u2.mono (by simp) (by simp) (by simp))
      unfold pTs
      cases e : rT b len jo rf p with
      | error w =>
        rw [e] at k2
        have k2' : KX sh n z2 kp kb b len J (.error w) := k2
        obtain ⟨z3, v1, v2, v3, v4⟩ := ih (i + 1) g z2 (.error w) T (by omega) (by omega) k2' (fun m em => by rw [f2.2.2.2.1 9 (by simp)]; exact hj m em) (fun p y => by cases y)
        exact ⟨z3, v1, v2, fun q y => (by cases y), f2.trans v4⟩
      | ok q =>
        have le := rT_le e
        rw [e] at k2
        have k2' : KX sh n z2 kp kb b len J (.ok q.2) := k2
        have q2l := k2'.2.2.1
        obtain ⟨w1, w2, w3⟩ := u3 (by omega)
        have T2 : TyT z2 kp (T ++ [q.1]) := by
          refine ⟨by rw [w1, List.length_append]; rfl, fun j hj => ?_⟩
          rw [List.length_append] at hj
          have hj' : j < T.length + 1 := hj
          by_cases c : j = T.length
          · subst c
            rw [w2, s3 q e, getD_e]
          · rw [w3 j c, s4.2.2.1 (kp + 1) (by simp), t1.2 j (by omega), getD_l (by omega)]
        obtain ⟨z3, v1, v2, v3, v4⟩ := ih (i + 1) g z2 (.ok q.2) (T ++ [q.1]) (by omega) (by omega) k2' (fun m em => by rw [f2.2.2.2.1 9 (by simp)]; exact hj m em) (fun p' y => by cases y; exact ⟨T2, by rw [List.length_append]; show T.length + 1 ≤ _; omega⟩)
        rw [ok_bq] at v2 v3
        rw [ok_bq]
        cases e3 : pTs b len jo rf m q.2 with
        | error w =>
          rw [e3] at v2
          exact ⟨z3, v1, v2, fun q y => (by cases y), f2.trans v4⟩
        | ok q3 =>
          rw [e3] at v2
          refine ⟨z3, v1, v2, fun q4 y => ?_, f2.trans v4⟩
          cases y
          have := v3 q3 e3
          rw [List.append_assoc] at this
          exact this
end
