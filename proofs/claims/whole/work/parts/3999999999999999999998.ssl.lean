/-! MISFITS: what a structure's fields must bear, both sides -/
def needN (a : Nat) : Nat := if a / 8 % 2 = 1 then a % 8 ||| 4 else a % 8
def wkOk (U : Md) (s : Nat) : Bool := (fbad (fun i => decide (abT U ((fdsOf U s).getD i []) &&& needN (U.2.1 s) = needN (U.2.1 s))) (fdsOf U s).length 0).isNone
theorem and16 : ∀ x, x < 16 → ∀ y, y < 16 → ((nI x &&& nI y : Int32) = nI y ↔ x &&& y = y) := by decide
theorem need0 : ∀ a, a < 16 → ((nI a &&& 8 : Int32) = 0 ↔ ¬ a / 8 % 2 = 1) := by decide
theorem need1 : ∀ a, a < 16 → a / 8 % 2 = 1 → ((nI a &&& 7) ||| 4 : Int32) = nI (needN a) := by decide
theorem need2 : ∀ a, a < 16 → ¬ a / 8 % 2 = 1 → ((nI a &&& 7) ||| 0 : Int32) = nI (needN a) := by decide
theorem need16 : ∀ a, a < 16 → needN a < 16 := by decide
theorem abT_lt {U : Md} {t : Ty} (h : ∀ s, endS t = some s → U.2.1 s < 16) : abT U t < 16 := by
  unfold abT
  split
  · omega
  · cases e : endS t with
    | none => show 7 < 16; omega
    | some s =>
      have := h s e
      show (if hdT t = 7 then U.2.1 s % 8 else U.2.1 s) < 16
      split <;> omega
section
variable {F n : Nat} {sh : Nat → Nat × Nat} {z z' : St} {kp kb len : Nat} {b : Nat → Nat} {M : MP} {ku : Nat}
theorem fd_tb (hb : ∀ q, q < len → b q < 256) (pk : PicOk b len M) (hj : jM b M = none) {s i : Nat} (hs : s < M.1.length) (hi : i < (M.1.getD s dSP).2.2.length) : TBr (M.1.length + M.2.1.length) ((M.1.getD s dSP).2.2.getD i []) := ((mdO_of hb pk hj).2.2.1 s hs |>.2 _ (getD_m hi)).1
theorem CPr.weakT (hF : 300 ≤ F) (h : CPr sh n z kp kb b len M) (hj : jM b M = none) : fn_X5_weakStructure F sh n z kp = some (z, nsR 0 (fbad (wkOk (mdOf b M)) M.1.length 0)) := by
  have pk := h.1.2.2.2
  have l1 := pk.1.1
  have p5 := (b_prog h.1.1 h.1.2.1).1
  have e8 := h.1.2.2.1.1.2.1
  have fl : ∀ s, s < M.1.length → ∀ (ko : St → Int32 → Option (St × Int32)) r i g, i + r = (M.1.getD s dSP).2.2.length → r < g → fn_X5_weakStructure_L38 F sh n kp (nI s) (nI (needN ((mdOf b M).2.1 s))) ko g z (nI i) = if (fbad (fun i => decide (abT (mdOf b M) ((M.1.getD s dSP).2.2.getD i []) &&& needN ((mdOf b M).2.1 s) = needN ((mdOf b M).2.1 s))) r i).isNone = true then ko z (nI s + 1) else some (z, nI s) := by
    intro s hs ko r
    have st := pk.1.2 _ (getD_m (d := dSP) hs)
    have f16 := st.2.2.2.2.2.1
    have n16 := need16 _ (ab_lt pk (show s < M.1.length + M.2.1.length by omega))
    induction r with
    | zero =>
      intro i g ei hg
      obtain ⟨g, rfl⟩ : ∃ q, g = q + 1 := ⟨g - 1, by omega⟩
      unfold fn_X5_weakStructure_L38
      rw [h.1.fields hs, cal_s, if_pos ((nI_leI (by omega) (by omega)).mpr (by omega))]
      rfl
    | succ r ih =>
      intro i g ei hg
      obtain ⟨g, rfl⟩ : ∃ q, g = q + 1 := ⟨g - 1, by omega⟩
      have il : i < (M.1.getD s dSP).2.2.length := by omega
      have tb := fd_tb h.hb pk hj hs il
      have ab := abilC_t (F := F) (sh := sh) (n := n) (z := z) (U := mdOf b M) hF tb.1 p5 (fun s' e => ⟨h.1.ab (tb.2.2 s' e), ab_lt pk (tb.2.2 s' e)⟩)
      have al := abT_lt (U := mdOf b M) (t := (M.1.getD s dSP).2.2.getD i []) (fun s' e => ab_lt pk (tb.2.2 s' e))
      unfold fn_X5_weakStructure_L38 fbad
      rw [h.1.fields hs, cal_s, if_neg (fun y => by have := (nI_leI (by omega) (by omega)).mp y; omega), h.1.field hs il, cal_s, ab, cal_s]
      by_cases c : abT (mdOf b M) ((M.1.getD s dSP).2.2.getD i []) &&& needN ((mdOf b M).2.1 s) = needN ((mdOf b M).2.1 s)
      · rw [if_pos ((and16 _ al _ n16).mpr c), if_pos (decide_eq_true c), nI_1]
        exact ih (i + 1) g (by omega) (by omega)
      · rw [if_neg (fun y => c ((and16 _ al _ n16).mp y)), if_neg (show ¬ decide _ = true from fun y => c (of_decide_eq_true y))]
        rfl
  have lp : ∀ r s g, s + r = M.1.length → r < g → fn_X5_weakStructure_L2 F sh n kp g z (nI s) = some (z, nsR 0 (fbad (wkOk (mdOf b M)) r s)) := by
    intro r
    induction r with
    | zero =>
      intro s g es hg
      obtain ⟨g, rfl⟩ : ∃ q, g = q + 1 := ⟨g - 1, by omega⟩
      unfold fn_X5_weakStructure_L2
      rw [p5, grd_true, e8, if_pos ((nI_leI (by omega) (by omega)).mpr (by omega))]
      rfl
    | succ r ih =>
      intro s g es hg
      obtain ⟨g, rfl⟩ : ∃ q, g = q + 1 := ⟨g - 1, by omega⟩
      have hs : s < M.1.length := by omega
      have a16 := ab_lt pk (show s < M.1.length + M.2.1.length by omega)
      have st := pk.1.2 _ (getD_m (d := dSP) hs)
      have f16 := st.2.2.2.2.2.1
      have q := fl s hs (fun z9 q1 => fn_X5_weakStructure_L2 F sh n kp g z9 q1) (M.1.getD s dSP).2.2.length 0 F (by omega) (by omega)
      have q' : fn_X5_weakStructure_L38 F sh n kp (nI s) (nI (needN ((mdOf b M).2.1 s))) (fun z9 q1 => fn_X5_weakStructure_L2 F sh n kp g z9 q1) F z 0 = if wkOk (mdOf b M) s = true then fn_X5_weakStructure_L2 F sh n kp g z (nI s + 1) else some (z, nI s) := q
      unfold fn_X5_weakStructure_L2 fn_X5_weakStructure_B33 fbad
      rw [p5, grd_true, e8, if_neg (fun y => by have := (nI_leI (by omega) (by omega)).mp y; omega), h.1.ab (by omega), cal_s, lt_t, lt_t]
      have fin : (if wkOk (mdOf b M) s = true then fn_X5_weakStructure_L2 F sh n kp g z (nI s + 1) else some (z, nI s)) = some (z, nsR 0 (if wkOk (mdOf b M) s = true then fbad (wkOk (mdOf b M)) r (s + 1) else some s)) := by
        by_cases c : wkOk (mdOf b M) s = true
        · rw [if_pos c, if_pos c, nI_1]; exact ih (s + 1) g (by omega) (by omega)
        · rw [if_neg c, if_neg c]; rfl
      by_cases c : (mdOf b M).2.1 s / 8 % 2 = 1
      · rw [if_neg (fun y => ((need0 _ a16).mp y) c), need1 _ a16 c, q', fin]
      · rw [if_pos ((need0 _ a16).mpr c), need2 _ a16 c, q', fin]
  exact lp M.1.length 0 F (by omega) (by omega)
theorem UM.ab (h : UM sh n z ku b len M) {s : Nat} (hs : s < M.1.length + M.2.1.length) : fn_X16_abilitiesOf F sh n z ku (nI s) = some (z, nI ((mdOf b M).2.1 s)) := h.abilitiesOf hs
theorem UM.bears (hF : 300 ≤ F) (h : UM sh n z ku b len M) (hj : jM b M = none) {s : Nat} (hs : s < M.1.length) : ∃ z', fn_X13_bears F sh n z 355 ku (nI s) = some (z', bI (wkOk (mdOf b M) s)) ∧ FrLm z z' := by
  have pk := h.2.2
  have hb : ∀ q, q < len → b q < 256 := fun q hq => (h.1.2.2.2.2 q hq).2
  have l1 := pk.1.1
  have o13 : okO sh n 355 13 = true := lay_o h.1.1 355 13 0 (by decide) rfl
  have fm : FrLm z (sq z 355 0 (some ku)) := ⟨fun k j q => by
    rcases q with q | q
    · simp [sq, q]
    · simp [sq, q]; intro e; rw [e], fun _ _ => rfl, fun _ _ _ => rfl, fun _ _ => rfl⟩
  have um := h.fm fm
  have lk : (sq z 355 0 (some ku)).2.2 355 0 = some ku := by simp [sq]
  have a16 := ab_lt pk (show s < M.1.length + M.2.1.length by omega)
  have n16 := need16 _ a16
  have st := pk.1.2 _ (getD_m (d := dSP) hs)
  have f16 := st.2.2.2.2.2.1
  generalize hy : sq z 355 0 (some ku) = y at fm um lk
  have lp : ∀ r i g, i + r = (M.1.getD s dSP).2.2.length → r < g → fn_X13_bears_L34 F sh n ku (nI s) 355 (nI (needN ((mdOf b M).2.1 s))) g y (nI i) = some (y, bI (fbad (fun i => decide (abT (mdOf b M) ((M.1.getD s dSP).2.2.getD i []) &&& needN ((mdOf b M).2.1 s) = needN ((mdOf b M).2.1 s))) r i).isNone) := by
    intro r
    induction r with
    | zero =>
      intro i g ei hg
      obtain ⟨g, rfl⟩ : ∃ q, g = q + 1 := ⟨g - 1, by omega⟩
      unfold fn_X13_bears_L34
      rw [um.fieldsOf hs, cal_s, if_pos ((nI_leI (by omega) (by omega)).mpr (by omega))]
      rfl
    | succ r ih =>
      intro i g ei hg
      obtain ⟨g, rfl⟩ : ∃ q, g = q + 1 := ⟨g - 1, by omega⟩
      have il : i < (M.1.getD s dSP).2.2.length := by omega
      have tb := fd_tb hb pk hj hs il
      have ab := abilR_t (F := F) (sh := sh) (n := n) (z := y) (U := mdOf b M) hF um.1.1 tb.1 lk um.1.o (fun s' e => ⟨um.ab (tb.2.2 s' e), ab_lt pk (tb.2.2 s' e)⟩)
      have al := abT_lt (U := mdOf b M) (t := (M.1.getD s dSP).2.2.getD i []) (fun s' e => ab_lt pk (tb.2.2 s' e))
      unfold fn_X13_bears_L34 fbad
      rw [um.fieldsOf hs, cal_s, if_neg (fun y => by have := (nI_leI (by omega) (by omega)).mp y; omega), um.field hF hs il, cal_s, ab, cal_s]
      by_cases c : abT (mdOf b M) ((M.1.getD s dSP).2.2.getD i []) &&& needN ((mdOf b M).2.1 s) = needN ((mdOf b M).2.1 s)
      · rw [if_pos ((and16 _ al _ n16).mpr c), if_pos (decide_eq_true c), nI_1]
        exact ih (i + 1) g (by omega) (by omega)
      · rw [if_neg (fun y => c ((and16 _ al _ n16).mp y)), if_neg (show ¬ decide _ = true from fun y => c (of_decide_eq_true y))]
        rfl
  have q := lp (M.1.getD s dSP).2.2.length 0 F (by omega) (by omega)
  have q' : fn_X13_bears_L34 F sh n ku (nI s) 355 (nI (needN ((mdOf b M).2.1 s))) F y 0 = some (y, bI (wkOk (mdOf b M) s)) := q
  unfold fn_X13_bears fn_X13_bears_B29
  rw [o13, grd_true, lt_t, hy, um.1.o, grd_true, um.ab (by omega), cal_s, um.ab (by omega), cal_s, lt_t, lt_t]
  refine ⟨y, ?_, fm⟩
  by_cases c : (mdOf b M).2.1 s / 8 % 2 = 1
  · rw [if_neg (fun y => ((need0 _ a16).mp y) c), need1 _ a16 c, q']
  · rw [if_pos ((need0 _ a16).mpr c), need2 _ a16 c, q']
end
