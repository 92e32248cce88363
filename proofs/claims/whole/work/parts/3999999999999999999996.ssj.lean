/-! MISFITS, THE CLASS: foreign functions -/
def tySb (U U' : Md) (t t' : Ty) : Bool := decide (tV t / 256 = tV t' / 256) && (if tV t / 256 % 256 = 6 then decide (U.2.2.2.1 (tV t % 256) = U'.2.2.2.1 (tV t' % 256)) else decide (tV t = tV t'))
def tgl (U : Md) (a : Nat) : List Ty := tksOf U a ++ gvsOf U a
def sameLs (U : Md) (a : Nat) (U' : Md) (f : Nat) : Bool := decide ((tksOf U a).length = (tksOf U' f).length) && (decide ((gvsOf U a).length = (gvsOf U' f).length) && (fbad (fun k => tySb U U' ((tgl U a).getD k []) ((tgl U' f).getD k [])) (tgl U a).length 0).isNone)
/-- a foreign function is there, open to others, with the same mark and the same lists -/
def fnOk (ws : Nat → Md) (wc : Nat) (U : Md) (a : Nat) : Bool := match wfi ws (whoOf U a / 256) (wc + 1) 0 with
  | none => false
  | some i => decide (whoOf U a % 256 < fsOf (ws i)) && (decide ((fnOf (ws i) (whoOf U a % 256)).1 % 2 = 1) && (decide ((fnOf (ws i) (whoOf U a % 256)).1 / 4 % 2 = (fnOf U a).1 / 4 % 2) && sameLs U a (ws i) (whoOf U a % 256)))
section
variable {F n : Nat} {sh : Nat → Nat × Nat} {z z' : St} {kp kb len kp' kb' len' : Nat} {b b' : Nat → Nat} {M M' : MP} {ws : Nat → Md} {wc : Nat} {dp : Nat → Nat → Nat}
theorem tL_ush {t : Ty} (h : TB t) : N (((tL t).toUInt64 >>> ((8 : Int32).toInt64.toUInt64 &&& Int64.toUInt64 63)).toInt64) = tV t / 256 := by
  have := ush8 (x := tL t) (k := 1) (by omega)
  rw [show ((8 : Int32)) = nI (8 * 1) from rfl, this, h.lt.2]
theorem tL_i {t : Ty} : (tL t).toInt32 &&& 255 = nI (tV t % 256) := by
  have g : (tL t).toInt32 = nI (tV t) := by unfold tL; rw [lN_i32]
  rw [g, nI_and255]
theorem TBr.ends {ns : Nat} {t : Ty} (h : TBr ns t) (e : tV t / 256 % 256 = 6) : tV t % 256 < ns := by
  have := h.1.ends
  rw [if_pos e] at this
  exact h.2.2 _ this
theorem CPr.sameType (h : CPr sh n z kp kb b len M) (h6 : 6 ≤ len) (h' : CPr sh n z kp' kb' b' len' M') (h6' : 6 ≤ len') {t t' : Ty} (ht : TBr (M.1.length + M.2.1.length) t) (ht' : TBr (M'.1.length + M'.2.1.length) t') : fn_X5_sameType F sh n z kp (tL t) kp' (tL t') = some (z, bI (tySb (mdOf b M) (mdOf b' M') t t')) := by
  have e1 := tL_ush ht.1
  have e2 := tL_ush ht'.1
  obtain ⟨en, _⟩ := endsC_t (F := F) (sh := sh) (n := n) (z := z) ht.1
  unfold fn_X5_sameType tySb
  by_cases c : tV t / 256 = tV t' / 256
  · rw [if_pos (N_inj (by rw [e1, e2, c])), decide_eq_true c, Bool.true_and, en, cal_s, lt_t, lt_t, tL_i, tL_i, ht.1.ends]
    by_cases d : tV t / 256 % 256 = 6
    · have s1 := ht.ends d
      have s2 := ht'.ends (by rw [← c]; exact d)
      obtain ⟨q4, q5⟩ := h.home (F := F) s1
      obtain ⟨q4', q5'⟩ := h'.home (F := F) s2
      have i1 := id_lt h.1.2.2.2 h.hb h6 s1
      have i2 := id_lt h'.1.2.2.2 h'.hb h6' s2
      rw [if_pos d, if_pos d, show bI (some (tV t % 256)).isSome = 1 from rfl, if_neg (by decide), (b_prog h.1.1 h.1.2.1).1, grd_true, q4, cal_s, (b_prog h'.1.1 h'.1.2.1).1, grd_true, q4', cal_s, q5, cal_s, q5', cal_s]
      generalize (mdOf b M).2.2.2.1 (tV t % 256) = i at i1
      generalize (mdOf b' M').2.2.2.1 (tV t' % 256) = j at i2
      by_cases k : i = j
      · rw [k, if_pos rfl, if_pos rfl, decide_eq_true rfl]; rfl
      · rw [decide_eq_false k]
        by_cases k4 : i / 256 = j / 256
        · have k5 : ¬ i % 256 = j % 256 := by omega
          rw [if_pos (by rw [k4]), if_neg (fun y => k5 ((nI_eq (by omega) (by omega)).mp y))]; rfl
        · rw [if_neg (fun y => k4 ((nI_eq (by omega) (by omega)).mp y))]; rfl
    · rw [if_neg d, if_neg d, show bI (none : Option Nat).isSome = 0 from rfl, if_pos rfl]
      by_cases k : tV t = tV t'
      · rw [if_pos (by unfold tL; rw [k]), decide_eq_true k]; rfl
      · rw [if_neg (fun y => k (by rw [← ht.1.lt.2, ← ht'.1.lt.2, y])), decide_eq_false k]; rfl
  · rw [if_neg (fun y => c (by rw [← e1, ← e2, y])), decide_eq_false c, Bool.false_and]; rfl
theorem tgl_ls (hb : ∀ q, q < len → b q < 256) (pk : PicOk b len M) (hj : jM b M = none) {a k : Nat} (ha : a < M.2.2.2.2.length + M.2.2.1.length) (hk : k < (tgl (mdOf b M) a).length) : TBr (M.1.length + M.2.1.length) ((tgl (mdOf b M) a).getD k []) := by
  have md := mdO_of hb pk hj
  have mem := getD_m (d := ([] : Ty)) hk
  unfold tgl at mem ⊢
  rcases List.mem_append.mp mem with q | q
  · exact ((md.2.2.2.2 a ha).2.2.2.1 _ q).1
  · exact ((md.2.2.2.2 a ha).2.2.2.2 _ q).1
end
