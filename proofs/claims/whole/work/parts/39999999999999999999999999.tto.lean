/-! ONE TRANSACTION: its beginning in the reference; a refused one -/
/-- transactions of a block, d of them are done -/
def Bk2 (sh : Nat → Nat × Nat) (n : Nat) (z y : St) (cnt d : Nat) : Prop := (z.1 337 52 = nI cnt ∧ y.1 0 4 = nI cnt ∧ cnt ≤ 32) ∧ (∀ t, t < cnt → TxL sh n z y t) ∧ (∀ t, t < d → TxD z y t) ∧ ∀ t, d ≤ t → t < cnt → y.1 (113 + 7 * t) 15 = 0
def Tp2 (sh : Nat → Nat × Nat) (n : Nat) (z y : St) (cnt d : Nat) : Prop := ∃ ws wc dp bs nc ac nr rs so D, Wor sh n z y ws wc dp bs ∧ Lgr z y ws wc dp nc ac nr rs so D ∧ Bk2 sh n z y cnt d ∧ (∃ len w, Tap z y len w) ∧ ∃ len, Akd z y len
def doS (z : St) (t : Nat) (sd : Int64) (lim : Nat) : St := si (si (sl (si (si (si (sl z 337 24 sd) 337 25 (nI lim)) 337 26 0) 337 27 (-1)) 337 28 0) 416 t 0) 414 t 0
def rfS (z : St) (t r : Nat) : St := sl (si (si (sl (si z 337 27 3) 337 28 (lN r)) 412 t 3) 413 t 0) 415 t (lN r)
/-- the reference's fields of a run -/
def rfl7 (j : Nat) : Prop := 24 ≤ j ∧ j ≤ 28
section
variable {F n : Nat} {sh : Nat → Nat × Nat} {z z' y y' : St} {t cnt d nc nr lim : Nat} {ac : Nat → Int64 × Int64 × Int64} {rs : Nat → Int64 × Nat × Hp × Nat} {so : Nat → Option Rsc} {sd sq : Int64}
theorem doS_1 {k : Nat} (h1 : k ≠ 337) (h2 : k ≠ 414) (h3 : k ≠ 416) : (doS z t sd lim).1 k = z.1 k := by
  unfold doS
  rw [si_ok h2, si_ok h3, sl_1, si_ok h1, si_ok h1, si_ok h1, sl_1]
theorem doS_2 {k : Nat} (h1 : k ≠ 337) : (doS z t sd lim).2.1 k = z.2.1 k := by
  unfold doS
  rw [si_2, si_2, sl_ok h1, si_2, si_2, si_2, sl_ok h1]
theorem doS_f {j : Nat} (h : ¬ rfl7 j) : (doS z t sd lim).1 337 j = z.1 337 j ∧ (doS z t sd lim).2.1 337 j = z.2.1 337 j := by
  unfold rfl7 at h
  unfold doS
  exact ⟨by rw [si_ok (by omega), si_ok (by omega), sl_1, si_oj (by omega), si_oj (by omega), si_oj (by omega), sl_1], by rw [si_2, si_2, sl_oj (by omega), si_2, si_2, si_2, sl_oj (by omega)]⟩
theorem doS_v : (doS z t sd lim).2.1 337 24 = sd ∧ (doS z t sd lim).1 337 25 = nI lim ∧ (doS z t sd lim).1 337 26 = 0 ∧ (doS z t sd lim).1 337 27 = -1 ∧ (doS z t sd lim).1 416 t = 0 ∧ (doS z t sd lim).1 414 t = 0 := by
  unfold doS
  refine ⟨?_, ?_, ?_, ?_, ?_, ?_⟩
  · rw [si_2, si_2, sl_oj (by omega), si_2, si_2, si_2, sl_ss]
  · rw [si_ok (by omega), si_ok (by omega), sl_1, si_oj (by omega), si_oj (by omega), si_ss]
  · rw [si_ok (by omega), si_ok (by omega), sl_1, si_oj (by omega), si_ss]
  · rw [si_ok (by omega), si_ok (by omega), sl_1, si_ss]
  · rw [si_ok (by omega), si_ss]
  · rw [si_ss]
theorem doS_4 {j : Nat} (hj : j ≠ t) : (doS z t sd lim).1 414 j = z.1 414 j ∧ (doS z t sd lim).1 416 j = z.1 416 j := by
  unfold doS
  exact ⟨by rw [si_oj hj, si_ok (by omega), sl_1, si_ok (by omega), si_ok (by omega), si_ok (by omega), sl_1], by rw [si_ok (by omega), si_oj hj, sl_1, si_ok (by omega), si_ok (by omega), si_ok (by omega), sl_1]⟩
theorem doS_rl (h : RLg z nc ac nr rs) : RLg (doS z t sd lim) nc ac nr rs := h.of (fun k a b => ⟨doS_1 (by omega) (by omega) (by omega), doS_2 (by omega)⟩) (doS_f (by unfold rfl7; omega)).1 (doS_f (by unfold rfl7; omega)).1
/-- the reference comes to its question for the module -/
theorem do_pre (hF : 300 ≤ F) (hL : Lay sh n z) (rl : RLg z nc ac nr rs) (ht : t < 32) (h1 : z.2.1 401 t = sd) (h2 : z.2.1 402 t = sq) (h3 : z.1 403 t = nI lim) (hl : lim ≤ 20000) : fn_X18_doOne F sh n z 337 (nI t) = fn_X18_doOne_B106 F sh n 337 (nI t) (oI (fdA nc ac sd)) (doS z t sd lim) (nI (rfT nc ac sd sq lim 0)) := by
  have c : (nI t).toNatClampNeg = t := nI_clamp (by omega)
  have m := fun k c e hk => md_at hL ht k c e hk
  have L' : Lay sh n (doS z t sd lim) := hL.of rfl
  have e24 : (doS z t sd lim).2.1 337 24 = sd := doS_v.1
  have e25 : (doS z t sd lim).1 337 25 = nI lim := doS_v.2.1
  have e402 : (doS z t sd lim).2.1 402 t = sq := by rw [doS_2 (by omega)]; exact h2
  unfold fn_X18_doOne
  simp only [(b_model hL).1, grd_true, hL.2.2 337 55 401 rfl, lnk_s, m 401 102 rfl (by decide), c, h1, lt_t, si_3, sl_3, hL.2.2 337 57 403 rfl, m 403 101 rfl (by decide), sl_1, h3, hL.2.2 337 70 416 rfl, m 416 101 rfl (by decide), hL.2.2 337 68 414 rfl, m 414 101 rfl (by decide)]
  show cal (fn_X18_findAccount F sh n (doS z t sd lim) 337 ((doS z t sd lim).2.1 337 24)) _ = _
  rw [e24, findA_t hF L' (doS_rl rl), cal_s]
  unfold rfT
  cases e : fdA nc ac sd with
  | none =>
    rw [if_neg (show ¬ (0 : Int32) ≤ oI none by decide)]; rfl
  | some i =>
    have hi := fd_lt _ _ _ e
    have n256 := rl.1.2.1
    obtain ⟨p1, p2, p3⟩ := (doS_rl (t := t) (sd := sd) (lim := lim) rl).1.2.2 i (by omega)
    have oi : okI (nI i) 256 = true := okI_nI (by omega) (by omega)
    have ci : (nI i).toNatClampNeg = i := nI_clamp (by omega)
    rw [if_pos (oI0 i (by omega)).1, show oI (some i) = nI i from rfl]
    simp only [(b_model L').2.2.2.1, (b_model L').2.2.1, lnk_s, lay_a L' 340 102 256 (by decide) rfl, lay_a L' 339 102 256 (by decide) rfl, oi, grd_true, L'.2.2 337 56 402 rfl, m 402 102 rfl (by decide), c, ci, p3, p2, e402, e25, lIi (show lim < 2 ^ 31 by omega)]
    by_cases q : (ac i).2.2 = sq
    · rw [if_pos q, if_pos q]
      by_cases q2 : lN lim ≤ (ac i).2.1
      · rw [if_pos q2, if_pos q2]; rfl
      · rw [if_neg q2, if_neg q2]; rfl
    · rw [if_neg q, if_neg q]; rfl
/-- it is refused -/
theorem ref_end (hL : Lay sh n z) (ht : t < 32) {r : Nat} (hr : 0 < r ∧ r < 16) (h27 : z.1 337 27 = -1) (h26 : z.1 337 26 = 0) (a b : Int32) : fn_X18_doOne_B141 F sh n 337 (nI t) a b z (nI r) = some (rfS z t r, ()) := by
  have c : (nI t).toNatClampNeg = t := nI_clamp (by omega)
  unfold fn_X18_doOne_B141 fn_X18_end fn_X18_doOne_B228
  rw [if_neg (show ¬ nI r = 0 from fun e => by have := nI_uq (b := 0) e (by omega) (by omega); omega), (b_model hL).1, grd_true, h27, if_pos (by decide), lt_t, lt_t, cal_s, lIi (by omega)]
  simp only [si_3, sl_3, hL.2.2 337 66 412 rfl, lnk_s, md_at hL ht 412 101 rfl (by decide), grd_true, lt_t, hL.2.2 337 67 413 rfl, md_at hL ht 413 101 rfl (by decide), hL.2.2 337 69 415 rfl, md_at hL ht 415 102 rfl (by decide), c]
  have e1 : (sl (si z 337 27 3) 337 28 (lN r)).1 337 27 = 3 := by rw [sl_1, si_ss]
  have e2 : (si (sl (si z 337 27 3) 337 28 (lN r)) 412 t 3).1 337 26 = 0 := by rw [si_ok (by omega), sl_1, si_oj (by omega)]; exact h26
  have e3 : (si (si (sl (si z 337 27 3) 337 28 (lN r)) 412 t 3) 413 t 0).2.1 337 28 = lN r := by rw [si_2, si_2, sl_ss]
  rw [e1, e2, e3]; rfl
theorem Bk2.step (h : Bk2 sh n z y cnt d) (hd : d < cnt) (a1 : z'.1 337 52 = z.1 337 52) (b1 : y'.1 0 4 = y.1 0 4) (fr : ∀ t, t < 32 → EqTr t z z' ∧ (t ≠ d → EqDr t z z')) (fc : ∀ t, t < 32 → EqTc n t y y' ∧ (t ≠ d → EqDc t y y')) (new : TxD z' y' d) (hn : n ≤ 10 ^ 12) : Bk2 sh n z' y' cnt (d + 1) := by
  obtain ⟨⟨h1, h2, h3⟩, h7, h8, h9⟩ := h
  refine ⟨⟨a1.trans h1, b1.trans h2, h3⟩, fun t ht => (h7 t ht).of (fr t (by omega)).1 (fc t (by omega)).1 (Nat.le_refl _) (fun _ _ => rfl) hn, fun t ht => ?_, fun t t1 t2 => ?_⟩
  · by_cases q : t = d
    · subst q; exact new
    · exact (h8 t (by omega)).of ((fr t (by omega)).2 q) ((fc t (by omega)).2 q)
  · rw [((fc t (by omega)).2 (by omega)).1 15 (by omega)]
    exact h9 t (by omega) t2
end
