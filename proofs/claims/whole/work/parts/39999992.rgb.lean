/-! THE REFERENCE'S LEDGER: ask, as a whole -/
def azS (z : St) (na s : Nat) (a : Int64) (k : Nat) : St := si (si (sl (si (si z 337 29 (nI (na + 1))) 385 na (nI s)) 386 na a) 387 na (nI k)) 389 na (-1)
def azE (z : St) (na s : Nat) (a : Int64) (k : Nat) (th : Bool) (b : Int64) : St := sl (si (azS z na s a k) 390 na (bI th)) 388 na b
section
variable {F n : Nat} {sh : Nat → Nat × Nat} {z z' : St} {H : Hp} {m : Nat} {fr : Nat → Fm} {nf na : Nat} {ak : Nat → Ask} {g lim : Nat} {nc nr : Nat} {ac : Nat → Int64 × Int64 × Int64} {rs : Nat → Int64 × Nat × Hp × Nat}
theorem az1 {s : Nat} {a : Int64} {k c : Nat} (h : c ≠ 337) (h2 : ¬ (385 ≤ c ∧ c ≤ 390)) : (azS z na s a k).1 c = z.1 c ∧ (azS z na s a k).2.1 c = z.2.1 c := by
  have : c ≠ 385 ∧ c ≠ 386 ∧ c ≠ 387 ∧ c ≠ 388 ∧ c ≠ 389 ∧ c ≠ 390 := by omega
  constructor <;> funext j <;> simp [azS, si_1, si_2, sl_1, sl_2, h, this]
theorem az2 {s : Nat} {a : Int64} {k j : Nat} (h : j ≠ 29) : (azS z na s a k).1 337 j = z.1 337 j := by simp [azS, si_1, sl_1, h]
theorem az3 {s : Nat} {a : Int64} {k : Nat} : (azS z na s a k).2.1 337 = z.2.1 337 := by funext j; simp [azS, si_2, sl_2]
theorem az_fr {s : Nat} {a : Int64} {k : Nat} : FrR z (azS z na s a k) := ⟨rfl, fun c c1 c2 => az1 c1 (fun q => c2 (.inr (.inr (by omega)))), fun j hj => ⟨az2 (fun e => hj (by rw [e]; simp [mfl])), by rw [az3]⟩⟩
theorem ae1 {s : Nat} {a : Int64} {k c : Nat} {th : Bool} {b : Int64} (h : c ≠ 337) (h2 : ¬ (385 ≤ c ∧ c ≤ 390)) : (azE z na s a k th b).1 c = z.1 c ∧ (azE z na s a k th b).2.1 c = z.2.1 c := by
  have : c ≠ 385 ∧ c ≠ 386 ∧ c ≠ 387 ∧ c ≠ 388 ∧ c ≠ 389 ∧ c ≠ 390 := by omega
  constructor <;> funext j <;> simp [azE, azS, si_1, si_2, sl_1, sl_2, h, this]
theorem ae2 {s : Nat} {a : Int64} {k j : Nat} {th : Bool} {b : Int64} (h : j ≠ 29) : (azE z na s a k th b).1 337 j = z.1 337 j := by simp [azE, azS, si_1, sl_1, h]
theorem ae3 {s : Nat} {a : Int64} {k : Nat} {th : Bool} {b : Int64} : (azE z na s a k th b).2.1 337 = z.2.1 337 := by funext j; simp [azE, azS, si_2, sl_2]
theorem ae4 {s : Nat} {a : Int64} {k c j : Nat} {th : Bool} {b : Int64} (h1 : 385 ≤ c) (h2 : c ≤ 390) (h : j ≠ na) : (azE z na s a k th b).1 c j = z.1 c j ∧ (azE z na s a k th b).2.1 c j = z.2.1 c j := by
  have : c ≠ 337 := by omega
  constructor <;> simp only [azE, azS, si_1, si_2, sl_1, sl_2, if_neg h, if_neg this] <;> (repeat' split) <;> first | rfl | (rename_i e; subst e; rfl) | (rename_i e _; subst e; rfl) | simp_all
/-- a place that was asked for before -/
theorem RM.askF (hF : 300 ≤ F) (h : RM sh n z H m fr nf na ak g lim) (hb : ∀ j, j < na → (ak j).1 < 2 ^ 31 ∧ (ak j).2.2.1 < 2 ^ 31) {s k j : Nat} {a : Int64} (hs : s < 2 ^ 31) (hk : k < 2 ^ 31) (e : fdK na ak s a k na 0 = some j) : fn_X18_ask F sh n z 337 (nI s) a (nI k) = some (z, nI j) := (ask_L h.1 h.2.2.2.2.1 hb hs hk na 0 F (by omega) (by have := h.2.2.2.2.1.2.1; omega)).1 j e
/-- one too many -/
theorem RM.askE (hF : 300 ≤ F) (h : RM sh n z H m fr nf na ak g lim) (hb : ∀ j, j < na → (ak j).1 < 2 ^ 31 ∧ (ak j).2.2.1 < 2 ^ 31) {s k : Nat} {a : Int64} (hs : s < 2 ^ 31) (hk : k < 2 ^ 31) (e : fdK na ak s a k na 0 = none) (hn : na = 24) : ∃ z', fn_X18_ask F sh n z 337 (nI s) a (nI k) = some (z', -1) ∧ RE sh n z' 2 4 g ∧ FrR z z' := by
  obtain ⟨f', w⟩ := (ask_L (F := F) h.1 h.2.2.2.2.1 hb hs hk na 0 F (by omega) (by have := h.2.2.2.2.1.2.1; omega)).2 e
  obtain ⟨z', p1, p2, p3⟩ := h.fin (F := F) 2 4
  refine ⟨z', ?_, p2, p3⟩
  unfold fn_X18_ask
  rw [show (0 : Int32) = nI 0 from rfl, w]
  unfold fn_X18_ask_L3
  simp only [b_model h.1, grd_true, h.2.2.2.2.1.1]
  rw [if_pos ((nI_leI (by omega) (by omega)).mpr (Nat.le_refl _)), if_pos (by rw [hn]; rfl), show (2 : Int32) = nI 2 from rfl, p1, cal_s]
theorem ask_tail (hF : 300 ≤ F) (h : RM sh n z H m fr nf na ak g lim) (hb : ∀ j, j < na → (ak j).1 < 2 ^ 31 ∧ (ak j).2.2.1 < 2 ^ 31) {s k : Nat} {a : Int64} (hs : s < 2 ^ 31) (hk : k < 2 ^ 31) (e : fdK na ak s a k na 0 = none) (hn : na < 24) : fn_X18_ask F sh n z 337 (nI s) a (nI k) = if (nI s : Int32) = 1 then cal (fn_X18_findAccount F sh n (azS z na s a k) 337 a) (fun z_61 r_62 => fn_X18_ask_B138 F sh n (nI s) 337 a (nI k) (nI na) z_61 r_62) else fn_X18_ask_B138 F sh n (nI s) 337 a (nI k) (nI na) (azS z na s a k) (-1) := by
  obtain ⟨f', w⟩ := (ask_L (F := F) h.1 h.2.2.2.2.1 hb hs hk na 0 F (by omega) (by have := h.2.2.2.2.1.2.1; omega)).2 e
  have hL := h.1
  have n24 : ¬ nI na = 24 := fun q => by have := (nI_ij (a := na) (b := 24) (by omega) (by omega)).mp q; omega
  have L1 : Lay sh n (si z 337 29 (nI (na + 1))) := hL.of rfl
  unfold fn_X18_ask
  rw [show (0 : Int32) = nI 0 from rfl, w]
  conv => lhs; unfold fn_X18_ask_L3
  simp only [b_model hL, grd_true, h.2.2.2.2.1.1, if_neg n24, lt_t, nI_1]
  rw [if_pos ((nI_leI (by omega) (by omega)).mpr (Nat.le_refl _))]
  simp only [si_3, sl_3, b_model hL, lnk_s, okI_nI hn (by omega), nI_clamp (n := na) (by omega), grd_true, lt_t]
  rfl
theorem RM.azN (h : RM sh n z H m fr nf na ak g lim) (hn : na < 24) {s k : Nat} {a b : Int64} {th : Bool} (h3 : s = 3 → th = false) : RM sh n (azE z na s a k th b) H m fr nf (na + 1) (upA ak na (s, a, k, b, th, 0)) g lim ∧ FrR z (azE z na s a k th b) := by
  refine h.new hn rfl (fun c c1 c2 c3 => ae1 c1 c3) (fun c j c1 c2 c3 => ae4 c1 c2 c3) (fun j j1 _ => ae2 j1) ae3 ?_ (h.2.2.1.fr (fun c a b => (ae1 (by omega) (by omega)).1) (fun c a b => (ae1 (by omega) (by omega)).2)) ?_ ?_ ?_ ?_ ?_ (fun q r => absurd (h3 q) (by simp only at r; rw [r]; simp))
  all_goals simp [azE, azS, si_1, si_2, sl_1, sl_2]
theorem oI0 (i : Nat) (h : i < 2 ^ 31) : (0 : Int32) ≤ oI (some i) ∧ ¬ (oI (some i) < 0) := by
  have e : (0 : Int32) ≤ nI i := (nIge (x := 0) 0 rfl h (by omega)).mpr (Nat.zero_le _)
  exact ⟨e, fun q => absurd (show nI i < 0 from q) (by rw [Int32.not_lt]; exact e)⟩
def acT (nc : Nat) (ac : Nat → Int64 × Int64 × Int64) (a : Int64) : Bool := (fdA nc ac a).isSome
def acB (nc : Nat) (ac : Nat → Int64 × Int64 × Int64) (a : Int64) : Int64 := match fdA nc ac a with
  | none => 0
  | some i => (ac i).2.1
/-- an account -/
theorem RM.ask1 (hF : 300 ≤ F) (h : RM sh n z H m fr nf na ak g lim) (hl : RLg z nc ac nr rs) (hb : ∀ j, j < na → (ak j).1 < 2 ^ 31 ∧ (ak j).2.2.1 < 2 ^ 31) {a : Int64} (e : fdK na ak 1 a 0 na 0 = none) (hn : na < 24) : ∃ z', fn_X18_ask F sh n z 337 1 a 0 = some (z', nI na) ∧ RM sh n z' H m fr nf (na + 1) (upA ak na (1, a, 0, acB nc ac a, acT nc ac a, 0)) g lim ∧ FrR z z' := by
  obtain ⟨w1, w2⟩ := h.azN hn (s := 1) (k := 0) (a := a) (b := acB nc ac a) (th := acT nc ac a) (fun q => by omega)
  refine ⟨_, ?_, w1, w2⟩
  have L2 : Lay sh n (azS z na 1 a 0) := h.1.of rfl
  have t := ask_tail (F := F) hF h hb (s := 1) (k := 0) (a := a) (by omega) (by omega) e hn
  rw [show (1 : Int32) = nI 1 from rfl, show (0 : Int32) = nI 0 from rfl, t, if_pos (by rfl), findA_t hF L2 (hl.keep az_fr), cal_s]
  unfold fn_X18_ask_B138
  rw [if_neg (by decide)]
  unfold fn_X18_ask_B156
  rw [L2.2.2 337 35 390 rfl, lnk_s]
  have L3 : ∀ b, Lay sh n (si (azS z na 1 a 0) 390 na b) := fun b => h.1.of rfl
  have l339 : ∀ b, (si (azS z na 1 a 0) 390 na b).2.1 339 = z.2.1 339 := fun b => by rw [si_2]; exact (az1 (by omega) (by omega)).2
  cases hc : fdA nc ac a with
  | none =>
    have ht : acT nc ac a = false := by unfold acT; rw [hc]; rfl
    have hB : acB nc ac a = 0 := by unfold acB; rw [hc]
    rw [ht, hB]
    rw [if_neg (by decide), if_pos (by decide)]
    unfold fn_X18_ask_B179
    simp only [b_model L2, grd_true, okI_nI hn (by omega), nI_clamp (n := na) (by omega), lt_t, show vp_nar .boolean 0 = bI false from rfl, b_model (L3 (bI false)), lnk_s]
    rw [if_pos (by decide)]
    unfold fn_X18_ask_B202
    simp only [b_model L2, grd_true, okI_nI hn (by omega), nI_clamp (n := na) (by omega), lt_t]
    rw [if_pos (by decide)]
    rfl
  | some i =>
    obtain ⟨_, ilt, _⟩ := fd_lt _ _ _ hc
    have i256 := hl.1.2.1
    have ht : acT nc ac a = true := by unfold acT; rw [hc]; rfl
    have hB : acB nc ac a = (ac i).2.1 := by unfold acB; rw [hc]
    rw [ht, hB]
    obtain ⟨o1, o2⟩ := oI0 i (by omega)
    rw [if_pos o1]
    unfold fn_X18_ask_B174 fn_X18_ask_B179
    simp only [b_model L2, grd_true, okI_nI hn (by omega), nI_clamp (n := na) (by omega), lt_t, show vp_nar .boolean 1 = bI true from rfl, b_model (L3 (bI true)), lnk_s]
    rw [if_neg o2, show oI (some i) = nI i from rfl, okI_nI (show i < 256 by omega) (by omega), grd_true, nI_clamp (by omega), l339, (hl.1.2.2 i (by omega)).2.1]
    unfold fn_X18_ask_B202
    simp only [b_model L2, grd_true, okI_nI hn (by omega), nI_clamp (n := na) (by omega), lt_t]
    rw [if_pos (by decide)]
    rfl
/-- what is not there -/
theorem RM.ask0 (hF : 300 ≤ F) (h : RM sh n z H m fr nf na ak g lim) (hl : RLg z nc ac nr rs) (hb : ∀ j, j < na → (ak j).1 < 2 ^ 31 ∧ (ak j).2.2.1 < 2 ^ 31) {s k : Nat} {a : Int64} (hk : k < 2 ^ 31) (hs : s = 2 ∨ (s = 3 ∧ fdR nr rs a k = none)) (e : fdK na ak s a k na 0 = none) (hn : na < 24) : ∃ z', fn_X18_ask F sh n z 337 (nI s) a (nI k) = some (z', nI na) ∧ RM sh n z' H m fr nf (na + 1) (upA ak na (s, a, k, 0, false, 0)) g lim ∧ FrR z z' := by
  obtain ⟨w1, w2⟩ := h.azN hn (s := s) (k := k) (a := a) (b := 0) (th := false) (fun q => rfl)
  refine ⟨_, ?_, w1, w2⟩
  have L2 : Lay sh n (azS z na s a k) := h.1.of rfl
  have L3 : ∀ b, Lay sh n (si (azS z na s a k) 390 na b) := fun b => h.1.of rfl
  have t := ask_tail (F := F) hF h hb (s := s) (k := k) (a := a) (by omega) hk e hn
  have s1 : ¬ nI s = 1 := fun q => by have := (nI_ij (a := s) (b := 1) (by omega) (by omega)).mp q; omega
  have tl : fn_X18_ask_B156 F sh n 337 (-1) (nI na) (azS z na s a k) (-1) = some (azE z na s a k false 0, nI na) := by
    unfold fn_X18_ask_B156
    rw [L2.2.2 337 35 390 rfl, lnk_s, if_neg (by decide), if_pos (by decide)]
    unfold fn_X18_ask_B179
    simp only [b_model L2, grd_true, okI_nI hn (by omega), nI_clamp (n := na) (by omega), lt_t, show vp_nar .boolean 0 = bI false from rfl, b_model (L3 (bI false)), lnk_s]
    rw [if_pos (by decide)]
    unfold fn_X18_ask_B202
    simp only [b_model L2, grd_true, okI_nI hn (by omega), nI_clamp (n := na) (by omega), lt_t]
    rw [if_pos (by decide)]
    rfl
  rw [t, if_neg s1]
  unfold fn_X18_ask_B138
  rcases hs with e2 | ⟨e2, e3⟩ <;> subst e2
  · rw [if_neg (by decide)]; exact tl
  · rw [if_pos (by rfl), findR_t hF L2 (hl.keep az_fr) hk, cal_s, e3]; exact tl
/-- a resource that is there -/
theorem RM.ask3 (hF : 300 ≤ F) (h : RM sh n z H m fr nf na ak g lim) (hl : RLg z nc ac nr rs) (hw : Nw H m) (hb : ∀ j, j < na → (ak j).1 < 2 ^ 31 ∧ (ak j).2.2.1 < 2 ^ 31) {k i : Nat} {a : Int64} (hk : k < 2 ^ 31) (hs : fdR nr rs a k = some i) (e : fdK na ak 3 a k na 0 = none) (hn : na < 24) (hm : m + (rs i).2.2.2 ≤ 24576) : ∃ z', fn_X18_ask F sh n z 337 3 a (nI k) = some (z', nI na) ∧ RM sh n z' (ldH H m (rs i).2.2.1 0 (rs i).2.2.2) (m + (rs i).2.2.2) fr nf (na + 1) (upA ak na (3, a, k, 0, true, m)) g lim ∧ FrR z z' := by
  obtain ⟨_, ilt, _⟩ := fd_lt _ _ _ hs
  have i256 := hl.2.2.1
  obtain ⟨_, _, _, c4, c5, c6⟩ := hl.2.2.2 i (by omega)
  have L2 : Lay sh n (azS z na 3 a k) := h.1.of rfl
  have L3 : ∀ b, Lay sh n (si (azS z na 3 a k) 390 na b) := fun b => h.1.of rfl
  have L4 : Lay sh n (azE z na 3 a k true 0) := h.1.of rfl
  have t := ask_tail (F := F) hF h hb (s := 3) (k := k) (a := a) (by omega) hk e hn
  let zl : St := si (azE z na 3 a k true 0) 337 14 (nI (64 * i))
  have Ll : Lay sh n zl := h.1.of rfl
  have fl : FrL (azE z na 3 a k true 0) zl := ⟨rfl, fun c c1 _ => ⟨by funext j; simp [zl, si_1, c1], rfl⟩, fun j hj => by simp [zl, si_1, hj], rfl⟩
  have kl : ∀ c, c ≠ 337 → ¬ (385 ≤ c ∧ c ≤ 390) → zl.1 c = z.1 c ∧ zl.2.1 c = z.2.1 c := fun c c1 c2 => ⟨(by funext j; simp only [zl, si_1, if_neg c1] : zl.1 c = (azE z na 3 a k true 0).1 c).trans (ae1 c1 c2).1, (ae1 c1 c2).2⟩
  have Kl : Kep zl (rs i).2.2.1 (64 * i) 0 (rs i).2.2.2 := fun w w1 w2 => by
    rw [(kl 345 (by omega) (by omega)).1, (kl 346 (by omega) (by omega)).2, (kl 347 (by omega) (by omega)).2, (kl 348 (by omega) (by omega)).1]
    exact c6 w w1 w2
  have Ml : HM zl H m := h.2.2.1.fr (fun c x y => (kl c (by omega) (by omega)).1) (fun c x y => (kl c (by omega) (by omega)).2)
  obtain ⟨z2, q1, q2, q3, q4, q5, q6, q7⟩ := loadM_t (F := F) (b := 64 * i) hF 48 zl H m 0 (rs i).2.2.2 Ll Ml hw c4 Kl (by simp [zl, si_1]) (by omega)
  rw [Nat.sub_zero] at q2
  have fz := fl.trans q7
  have rows : ∀ c, c ≠ 337 → ¬ (349 ≤ c ∧ c ≤ 354) → z2.1 c = (azE z na 3 a k true 0).1 c ∧ z2.2.1 c = (azE z na 3 a k true 0).2.1 c := fz.2.1
  have nw := h.new (z' := si z2 389 na (nI m)) hn (x := (3, a, k, 0, true, m)) fz.1 (fun c c1 c2 c3 => by
      rw [← (ae1 (z := z) (na := na) (s := 3) (a := a) (k := k) (th := true) (b := 0) c1 c3).1, ← (ae1 (z := z) (na := na) (s := 3) (a := a) (k := k) (th := true) (b := 0) c1 c3).2, ← (rows c c1 c2).1, ← (rows c c1 c2).2]
      exact ⟨by funext j; simp [si_1, show c ≠ 389 by omega], rfl⟩) (fun c j c1 c2 c3 => by
      obtain ⟨x1, x2⟩ := rows c (by omega) (by omega)
      obtain ⟨y1, y2⟩ := ae4 (z := z) (na := na) (s := 3) (a := a) (k := k) (th := true) (b := 0) c1 c2 c3
      refine ⟨?_, by rw [si_2, x2]; exact y2⟩
      rw [← y1, ← x1]
      simp only [si_1, if_neg c3]
      split
      · rename_i e; subst e; rfl
      · rfl) (fun j j1 j2 => by rw [show (si z2 389 na (nI m)).1 337 j = z2.1 337 j by simp [si_1], fz.2.2.1 j j2]; exact ae2 j1) (by rw [si_2, fz.2.2.2]; exact ae3) (by rw [show (si z2 389 na (nI m)).1 337 29 = z2.1 337 29 by simp [si_1], fz.2.2.1 29 (by decide)]; simp [azE, azS, si_1, sl_1]) (H' := ldH H m (rs i).2.2.1 0 (rs i).2.2.2) (m' := m + (rs i).2.2.2) (q2.fr (fun c x y => by funext j; simp [si_1, show c ≠ 389 by omega]) (fun _ _ _ => rfl)) (by rw [show (si z2 389 na (nI m)).1 385 na = z2.1 385 na by simp [si_1], (rows 385 (by omega) (by omega)).1]; simp [azE, azS, si_1, sl_1]) (by rw [si_2, (rows 386 (by omega) (by omega)).2]; simp [azE, azS, si_2, sl_2]) (by rw [show (si z2 389 na (nI m)).1 387 na = z2.1 387 na by simp [si_1], (rows 387 (by omega) (by omega)).1]; simp [azE, azS, si_1, sl_1]) (by rw [si_2, (rows 388 (by omega) (by omega)).2]; simp [azE, azS, si_2, sl_2]) (by rw [show (si z2 389 na (nI m)).1 390 na = z2.1 390 na by simp [si_1], (rows 390 (by omega) (by omega)).1]; simp [azE, azS, si_1, sl_1]) (fun _ _ => by simp [si_1])
  refine ⟨_, ?_, nw.1, nw.2⟩
  obtain ⟨o1, o2⟩ := oI0 i (by omega)
  rw [show (3 : Int32) = nI 3 from rfl, t, if_neg (by decide)]
  unfold fn_X18_ask_B138
  rw [if_pos (by rfl), findR_t hF L2 (hl.keep az_fr) hk, cal_s, hs]
  unfold fn_X18_ask_B156
  rw [L2.2.2 337 35 390 rfl, lnk_s, if_neg (by decide), if_neg o2]
  unfold fn_X18_ask_B174 fn_X18_ask_B179
  simp only [b_model L2, grd_true, okI_nI hn (by omega), nI_clamp (n := na) (by omega), lt_t, show vp_nar .boolean 1 = bI true from rfl, b_model (L3 (bI true)), lnk_s]
  rw [if_pos (by decide)]
  unfold fn_X18_ask_B202
  simp only [b_model L2, grd_true, okI_nI hn (by omega), nI_clamp (n := na) (by omega), lt_t]
  rw [if_neg o2]
  have ld : fn_X18_load F sh n (azE z na 3 a k true 0) 337 (nI i) = some (z2, nI m) := by
    unfold fn_X18_load
    rw [show (64 : Int32) = nI 64 from rfl, pk_mul]
    simp only [b_model L4, grd_true, lt_t]
    rw [show fn_X18_loadOne F sh n 48 (si (azE z na 3 a k true 0) 337 14 (nI (64 * i))) 337 = some (z2, nI m) from q1, cal_s]
  rw [show sl (si (azS z na 3 a k) 390 na (bI true)) 388 na 0 = azE z na 3 a k true 0 from rfl, L4.2.2 337 34 389 rfl, lnk_s, show oI (some i) = nI i from rfl, ld, cal_s]
  simp only [b_model L4, okI_nI hn (show 24 < 2 ^ 31 by omega), grd_true]
end
