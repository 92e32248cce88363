/-! THE CLASS'S LOOKER: readings that never end badly -/
section
variable {F n : Nat} {sh : Nat → Nat × Nat} {z z' : St} {kp f w ns : Nat} {ls : List Ty} {L : Lks} {U : Md}
theorem hd_tot (x : Int64) : ∀ g p, p ≤ 7 → p < g → ∀ G, (∃ r, fn_X5_head_L3 G sh n x g z (nI (8 * p)) = some (z, r)) ∧ ∃ r, fn_X5_headShift_L3 G sh n x g z (nI (8 * p)) = some (z, r) := by
  intro g
  induction g with
  | zero => intro p a h; omega
  | succ g ih =>
    intro p a h G
    unfold fn_X5_head_L3 fn_X5_headShift_L3
    by_cases c0 : nI (8 * p) ≤ 0
    · rw [if_pos c0, if_pos c0]; exact ⟨⟨_, rfl⟩, _, rfl⟩
    rw [if_neg c0, if_neg c0]
    by_cases c1 : (x.toUInt64 >>> ((nI (8 * p)).toInt64.toUInt64 &&& Int64.toUInt64 63)).toInt64 = 0
    · rw [if_pos c1, if_pos c1]
      obtain ⟨q, rfl⟩ : ∃ q, p = q + 1 := ⟨p - 1, by
        by_cases d : p = 0
        · subst d; exact absurd (show nI (8 * 0) ≤ 0 by decide) c0
        · omega⟩
      have e : nI (8 * (q + 1)) + (-8) = nI (8 * q) := by
        rw [show 8 * (q + 1) = 8 * q + 8 by omega, ← nI_add]
        show nI (8 * q) + 8 + -8 = _
        rw [Int32.add_assoc, show (8 : Int32) + -8 = 0 from rfl, Int32.add_zero]
      rw [e]
      exact ih q (by omega) (by omega) G
    · rw [if_neg c1, if_neg c1]; exact ⟨⟨_, rfl⟩, _, rfl⟩
theorem head_e (hF : 300 ≤ F) (x : Int64) : ∃ r, fn_X5_head F sh n z x = some (z, r) := (hd_tot x F 7 (by omega) (by omega) F).1
theorem headS_e (hF : 300 ≤ F) (x : Int64) : ∃ r, fn_X5_headShift F sh n z x = some (z, r) := (hd_tot x F 7 (by omega) (by omega) F).2
theorem isRef_e (hF : 300 ≤ F) (x : Int64) : ∃ r, fn_X5_isReference F sh n z x = some (z, r) := by
  obtain ⟨r, e⟩ := head_e (z := z) (sh := sh) (n := n) hF x
  unfold fn_X5_isReference
  rw [e, cal_s]
  by_cases c : r < 8
  · rw [if_pos c]; exact ⟨_, rfl⟩
  · rw [if_neg c]; exact ⟨_, rfl⟩
theorem writes_e (hF : 300 ≤ F) (x : Int64) : ∃ r, fn_X3_writes F sh n z x = some (z, r) := by
  obtain ⟨r, e⟩ := head_e (z := z) (sh := sh) (n := n) hF x
  unfold fn_X3_writes
  rw [e, cal_s]
  by_cases c : r = 9
  · rw [if_pos c]; exact ⟨_, rfl⟩
  · rw [if_neg c]; exact ⟨_, rfl⟩
theorem point_e (hF : 300 ≤ F) (x : Int64) : ∃ r, fn_X5_pointee F sh n z x = some (z, r) := by
  obtain ⟨r, e⟩ := headS_e (z := z) (sh := sh) (n := n) hF x
  unfold fn_X5_pointee
  rw [e, cal_s]; exact ⟨_, rfl⟩
theorem pref_e (hF : 300 ≤ F) (b : Int32) (x : Int64) : ∃ r, fn_X5_prefixed F sh n z b x = some (z, r) := by
  obtain ⟨r, e⟩ := headS_e (z := z) (sh := sh) (n := n) hF x
  unfold fn_X5_prefixed
  rw [e, cal_s, lt_t]
  by_cases c : r + 8 ≤ 56
  · rw [if_pos c]; exact ⟨_, rfl⟩
  · rw [if_neg c]; exact ⟨_, rfl⟩
/-- what abilities may be asked for: the structure that its number ends in is there -/
def AbO (ns : Nat) (x : Int64) : Prop := (((x.toUInt64 >>> ((8 : Int32).toInt64.toUInt64 &&& Int64.toUInt64 63)).toInt64) &&& 255 : Int64) = 6 → ∃ s, s < ns ∧ x.toInt32 &&& 255 = nI s
theorem AbO.z0 (ns : Nat) : AbO ns 0 := fun h => absurd h (by decide)
theorem ev_N {u : Ty} (hb : ∀ b, b ∈ u → b < 256) (hl : u.length ≤ 7) : N (tL u) = tV u := by
  have h1 := tV_lt u hb
  have h2 := pow256 hl
  have h3 : (256 : Nat) ^ 7 = 2 ^ 56 := by decide
  exact N_lN (by omega)
theorem AbO.of {u : Ty} (hb : ∀ b, b ∈ u → b < 256) (hl : u.length ≤ 7) (he : ∀ s, endS u = some s → s < ns) : AbO ns (tL u) := by
  intro h
  have e1 : N ((((tL u).toUInt64 >>> ((8 : Int32).toInt64.toUInt64 &&& Int64.toUInt64 63)).toInt64) &&& 255) = tV u / 256 % 256 := by
    have := ush8 (x := tL u) (k := 1) (by omega)
    rw [N_255, show ((8 : Int32)) = nI (8 * 1) from rfl, this, ev_N hb hl]
  rw [h] at e1
  have e6 : tV u / 256 % 256 = 6 := by rw [← e1]; rfl
  have l2 : 2 ≤ u.length := by
    cases u with
    | nil => simp [tV] at e6
    | cons b v =>
      cases v with
      | nil => have := hb b (by simp); simp [tV] at e6; omega
      | cons _ _ => simp
  have es := endS_v u hb l2
  rw [if_pos e6] at es
  refine ⟨tV u % 256, he _ es, ?_⟩
  have g : (tL u).toInt32 = nI (tV u) := by unfold tL; rw [lN_i32]
  rw [g, nI_and255]
theorem AbO.tb {t : Ty} (h : TBr ns t) : AbO ns (tL t) := AbO.of h.1.2.2 h.1.1 h.2.2
theorem AbO.tail {b : Nat} {u : Ty} (h : TBr ns (b :: u)) : AbO ns (tL u) := AbO.of (fun x hx => h.1.2.2 x (by simp [hx])) (by have := h.1.1; simp at this; omega) (fun s q => h.2.2 s (by
  match u, q with
  | c :: d :: v, q => exact q))
theorem abil_e (hF : 300 ≤ F) {x : Int64} (hx : AbO U.1.2.2 x) (hk : okO sh n kp 5 = true) (hu : ∀ s, s < U.1.2.2 → fn_X5_structureColumn F sh n z kp (nI s) 0 = some (z, nI (U.2.1 s))) : ∃ r, fn_X5_abilities F sh n z kp x = some (z, r) := by
  obtain ⟨r, e⟩ := head_e (z := z) (sh := sh) (n := n) hF x
  have b37 : ∀ q, ∃ r', fn_X5_abilities_B37 F sh n r z q = some (z, r') := fun q => by
    unfold fn_X5_abilities_B37
    by_cases c : r = 7
    · rw [if_pos c]; exact ⟨_, rfl⟩
    · rw [if_neg c]; exact ⟨_, rfl⟩
  unfold fn_X5_abilities
  rw [e, cal_s]
  by_cases c : r < 8
  · rw [if_pos c]
    unfold fn_X5_endsInStructure
    by_cases d : (((x.toUInt64 >>> ((8 : Int32).toInt64.toUInt64 &&& Int64.toUInt64 63)).toInt64) &&& 255 : Int64) = 6
    · obtain ⟨s, s1, s2⟩ := hx d
      rw [if_pos d, cal_s, if_neg (show ¬ (1 : Int32) = 0 from by decide), hk, grd_true, s2, hu s s1, cal_s]
      exact b37 _
    · rw [if_neg d, cal_s, if_pos rfl]
      exact b37 _
  · rw [if_neg c]; exact ⟨_, rfl⟩
theorem CB.has_e (hF : 300 ≤ F) (h : CB sh n z kp f w) {x : Int64} (hx : AbO U.1.2.2 x) (hk : okO sh n kp 5 = true) (hu : ∀ s, s < U.1.2.2 → fn_X5_structureColumn F sh n z kp (nI s) 0 = some (z, nI (U.2.1 s))) (a : Int32) : ∃ r, fn_X3_has F sh n z 62 x a = some (z, r) := by
  obtain ⟨r, e⟩ := abil_e (z := z) (sh := sh) (n := n) hF hx hk hu
  unfold fn_X3_has
  rw [h.o3, grd_true, h.2.1, lnk_s, hk, grd_true, e, cal_s]
  by_cases c : r &&& a = 0
  · rw [if_pos c]; exact ⟨_, rfl⟩
  · rw [if_neg c]; exact ⟨_, rfl⟩
theorem CB.there_e (h : CB sh n z kp f w) (k : Int32) : ∃ r, fn_X3_isThere F sh n z 62 k = some (z, r) := by
  unfold fn_X3_isThere
  rw [h.o3, grd_true]
  by_cases c : ((((z.2.1 62 12).toUInt64 >>> (k.toInt64.toUInt64 &&& Int64.toUInt64 63)).toInt64) &&& 1 : Int64) = 0
  · rw [if_pos c]; exact ⟨_, rfl⟩
  · rw [if_neg c]; exact ⟨_, rfl⟩
theorem CB.live_e (hF : 300 ≤ F) (h : CB sh n z kp f w) (x : Int64) (wr : Int32) : ∃ r, fn_X3_isLive F sh n z 62 x wr = some (z, r) := by
  have h' := h
  obtain ⟨a1, a2, a3, a4, d, a5, a6, a7⟩ := h
  have l54 : ∀ r p g, p + r = 40 → r < g → ∃ v, fn_X3_isLive_L54 F sh n 62 x wr g z (nI p) = some (z, v) := by
    intro r
    induction r with
    | zero =>
      intro p g ep hg
      obtain ⟨g, rfl⟩ : ∃ q, g = q + 1 := ⟨g - 1, by omega⟩
      have ep' : p = 40 := by omega
      subst ep'
      unfold fn_X3_isLive_L54
      rw [if_pos (show (40 : Int32) ≤ nI 40 by decide)]
      exact ⟨_, rfl⟩
    | succ r ih =>
      intro p g ep hg
      obtain ⟨g, rfl⟩ : ∃ q, g = q + 1 := ⟨g - 1, by omega⟩
      have ok : ∀ k c, shF k = (c, 40) → k < 513 → okA sh n k c (nI p) = true := fun k c ee hk => by rw [lay_a a1 k c 40 hk ee]; exact okI_nI (by omega) (by omega)
      have nx := ih (p + 1) g (by omega) (by omega)
      obtain ⟨rw9, ew⟩ := writes_e (z := z) (sh := sh) (n := n) hF (z.2.1 66 (nI p).toNatClampNeg)
      conv => enter [1, v, 1]; unfold fn_X3_isLive_L54
      rw [if_neg (fun q => by have := (nIge (x := 40) 40 rfl (by omega) (by omega)).mp q; omega), a1.2.2 62 10 67 rfl, lnk_s, ok 67 102 rfl (by omega), grd_true, a1.2.2 62 9 66 rfl, lnk_s, ok 66 102 rfl (by omega), grd_true, ew, cal_s]
      unfold fn_X3_isLive_B94
      rw [nI_1]
      by_cases c : z.2.1 67 (nI p).toNatClampNeg &&& x = 0
      · rw [if_pos c]; exact nx
      rw [if_neg c]
      by_cases c2 : wr = 0
      · rw [if_pos c2]; exact ⟨_, rfl⟩
      rw [if_neg c2]
      by_cases c3 : rw9 = 0
      · rw [if_pos c3]; exact nx
      · rw [if_neg c3]; exact ⟨_, rfl⟩
  have l3 : ∀ r p g, p + r = d → r < g → ∃ v, fn_X3_isLive_L3 F sh n 62 x wr g z (nI p) = some (z, v) := by
    intro r
    induction r with
    | zero =>
      intro p g ep hg
      obtain ⟨g, rfl⟩ : ∃ q, g = q + 1 := ⟨g - 1, by omega⟩
      obtain ⟨v, e⟩ := l54 40 0 F (by omega) (by omega)
      have e' : fn_X3_isLive_L54 F sh n 62 x wr F z 0 = _ := e
      conv => enter [1, v, 1]; unfold fn_X3_isLive_L3
      rw [h'.o3, grd_true, a5, if_pos ((nI_leI (by omega) (by omega)).mpr (by omega)), e']
      exact ⟨_, rfl⟩
    | succ r ih =>
      intro p g ep hg
      obtain ⟨g, rfl⟩ : ∃ q, g = q + 1 := ⟨g - 1, by omega⟩
      have ok : ∀ k c, shF k = (c, 64) → k < 513 → okA sh n k c (nI p) = true := fun k c ee hk => by rw [lay_a a1 k c 64 hk ee]; exact okI_nI (by omega) (by omega)
      have nx := ih (p + 1) g (by omega) (by omega)
      obtain ⟨rw9, ew⟩ := writes_e (z := z) (sh := sh) (n := n) hF (z.2.1 63 (nI p).toNatClampNeg)
      conv => enter [1, v, 1]; unfold fn_X3_isLive_L3
      rw [h'.o3, grd_true, a5, if_neg (fun q => by have := (nI_leI (by omega) (by omega)).mp q; omega), a1.2.2 62 6 64 rfl, lnk_s, ok 64 102 rfl (by omega), grd_true, a1.2.2 62 5 63 rfl, lnk_s, ok 63 102 rfl (by omega), grd_true, ew, cal_s]
      unfold fn_X3_isLive_B45
      rw [nI_1]
      by_cases c : z.2.1 64 (nI p).toNatClampNeg &&& x = 0
      · rw [if_pos c]; exact nx
      rw [if_neg c]
      by_cases c2 : wr = 0
      · rw [if_pos c2]; exact ⟨_, rfl⟩
      rw [if_neg c2]
      by_cases c3 : rw9 = 0
      · rw [if_pos c3]; exact nx
      · rw [if_neg c3]; exact ⟨_, rfl⟩
  exact l3 d 0 F (by omega) (by omega)
theorem CB.sole_e (hF : 300 ≤ F) (h : CB sh n z kp f w) (x : Int64) : ∃ r, fn_X3_isSole F sh n z 62 x = some (z, r) := by
  have h' := h
  obtain ⟨a1, a2, a3, a4, d, a5, a6, a7⟩ := h
  have l54 : ∀ r p g, p + r = 40 → r < g → ∃ v, fn_X3_isSole_L54 F sh n 62 x g z (nI p) = some (z, v) := by
    intro r
    induction r with
    | zero =>
      intro p g ep hg
      obtain ⟨g, rfl⟩ : ∃ q, g = q + 1 := ⟨g - 1, by omega⟩
      have ep' : p = 40 := by omega
      subst ep'
      unfold fn_X3_isSole_L54
      rw [if_pos (show (40 : Int32) ≤ nI 40 by decide)]
      exact ⟨_, rfl⟩
    | succ r ih =>
      intro p g ep hg
      obtain ⟨g, rfl⟩ : ∃ q, g = q + 1 := ⟨g - 1, by omega⟩
      have ok : ∀ k c, shF k = (c, 40) → k < 513 → okA sh n k c (nI p) = true := fun k c ee hk => by rw [lay_a a1 k c 40 hk ee]; exact okI_nI (by omega) (by omega)
      have nx := ih (p + 1) g (by omega) (by omega)
      obtain ⟨rw9, ew⟩ := writes_e (z := z) (sh := sh) (n := n) hF (z.2.1 66 (nI p).toNatClampNeg)
      conv => enter [1, v, 1]; unfold fn_X3_isSole_L54
      rw [if_neg (fun q => by have := (nIge (x := 40) 40 rfl (by omega) (by omega)).mp q; omega), a1.2.2 62 10 67 rfl, lnk_s, ok 67 102 rfl (by omega), grd_true, a1.2.2 62 9 66 rfl, lnk_s, ok 66 102 rfl (by omega), grd_true, ew, cal_s]
      unfold fn_X3_isSole_B100
      rw [nI_1]
      by_cases c : z.2.1 67 (nI p).toNatClampNeg &&& x = 0
      · rw [if_pos c]; exact nx
      rw [if_neg c]
      by_cases c2 : ((((z.2.1 62 13).toUInt64 >>> ((nI p).toInt64.toUInt64 &&& Int64.toUInt64 63)).toInt64) &&& 1 : Int64) = 0
      · rw [if_pos c2]
        by_cases c3 : rw9 = 0
        · rw [if_pos c3]; exact ⟨_, rfl⟩
        · rw [if_neg c3]; exact nx
      · rw [if_neg c2]; exact ⟨_, rfl⟩
  have l2 : ∀ r p g, p + r = d → r < g → ∃ v, fn_X3_isSole_L2 F sh n 62 x g z (nI p) = some (z, v) := by
    intro r
    induction r with
    | zero =>
      intro p g ep hg
      obtain ⟨g, rfl⟩ : ∃ q, g = q + 1 := ⟨g - 1, by omega⟩
      obtain ⟨v, e⟩ := l54 40 0 F (by omega) (by omega)
      have e' : fn_X3_isSole_L54 F sh n 62 x F z 0 = _ := e
      conv => enter [1, v, 1]; unfold fn_X3_isSole_L2
      rw [h'.o3, grd_true, a5, if_pos ((nI_leI (by omega) (by omega)).mpr (by omega)), e']
      exact ⟨_, rfl⟩
    | succ r ih =>
      intro p g ep hg
      obtain ⟨g, rfl⟩ : ∃ q, g = q + 1 := ⟨g - 1, by omega⟩
      have ok : ∀ k c, shF k = (c, 64) → k < 513 → okA sh n k c (nI p) = true := fun k c ee hk => by rw [lay_a a1 k c 64 hk ee]; exact okI_nI (by omega) (by omega)
      have nx := ih (p + 1) g (by omega) (by omega)
      obtain ⟨rw9, ew⟩ := writes_e (z := z) (sh := sh) (n := n) hF (z.2.1 63 (nI p).toNatClampNeg)
      conv => enter [1, v, 1]; unfold fn_X3_isSole_L2
      rw [h'.o3, grd_true, a5, if_neg (fun q => by have := (nI_leI (by omega) (by omega)).mp q; omega), a1.2.2 62 6 64 rfl, lnk_s, ok 64 102 rfl (by omega), grd_true, a1.2.2 62 7 65 rfl, lnk_s, ok 65 103 rfl (by omega), grd_true, a1.2.2 62 5 63 rfl, lnk_s, ok 63 102 rfl (by omega), grd_true, ew, cal_s]
      unfold fn_X3_isSole_B46
      rw [nI_1]
      by_cases c : z.2.1 64 (nI p).toNatClampNeg &&& x = 0
      · rw [if_pos c]; exact nx
      rw [if_neg c]
      by_cases c2 : z.1 65 (nI p).toNatClampNeg = 0
      · rw [if_pos c2]
        by_cases c3 : rw9 = 0
        · rw [if_pos c3]; exact ⟨_, rfl⟩
        · rw [if_neg c3]; exact nx
      · rw [if_neg c2]; exact ⟨_, rfl⟩
  exact l2 d 0 F (by omega) (by omega)
/-- something is asked, and if it isn't so, that is a fault -/
theorem CR.chk {r : Px Lks} (h : CR sh n z kp f ls ns r) {X : Option (St × Int32)} {v : Nat} {iv : Int32} (ev : iv = nI v) (hv : v < 16) (h0 : 0 < v) {g : Lks → Bool} (hok : ∀ M, r = .ok M → X = some (z, bI (g M))) (her : ∀ w, r = .error w → ∃ b, X = some (z, b)) {k : St → Option (St × Unit)} : ∃ z', cal X (fun z1 r1 => if r1 = 0 then cal (fn_X3_fail F sh n z1 62 iv) (fun z2 _ => k z2) else k z1) = k z' ∧ CR sh n z' kp f ls ns (r >>= fun L => nd_ (g L) v >>= fun _ => .ok L) ∧ FrQc z z' ∧ ∀ M, (r >>= fun L => nd_ (g L) v >>= fun _ => .ok L) = .ok M → z' = z := by
  subst ev
  cases r with
  | error w =>
    obtain ⟨b, e⟩ := her w rfl
    rw [e, cal_s, h.2.fail_e h.1, cal_s]
    refine ⟨z, ?_, h, FrQc.rfl', fun M q => rfl⟩
    by_cases c : b = 0
    · rw [if_pos c]
    · rw [if_neg c]
  | ok M =>
    rw [hok M rfl, cal_s]
    show ∃ z', _ ∧ CR sh n z' kp f ls ns (nd_ (g M) v >>= fun _ => .ok M) ∧ _ ∧ ∀ M', (nd_ (g M) v >>= fun _ => .ok M) = .ok M' → z' = z
    cases e : g M with
    | true => rw [if_neg (show ¬ bI true = 0 from one0)]; exact ⟨z, rfl, h, FrQc.rfl', fun M q => rfl⟩
    | false =>
      obtain ⟨z1, q1, q2, q3⟩ := CB.fail (F := F) (CK.cb h) hv
      rw [if_pos (show bI false = 0 from rfl), q1, cal_s]
      exact ⟨z1, rfl, ⟨h0, q2⟩, q3, fun M q => by cases q⟩
theorem CR.chkN {r : Px Lks} (h : CR sh n z kp f ls ns r) {X : Option (St × Int32)} {v : Nat} {iv : Int32} (ev : iv = nI v) (hv : v < 16) (h0 : 0 < v) {g : Lks → Bool} (hok : ∀ M, r = .ok M → X = some (z, bI (g M))) (her : ∀ w, r = .error w → ∃ b, X = some (z, b)) {k : St → Option (St × Unit)} : ∃ z', cal X (fun z1 r1 => if r1 = 0 then k z1 else cal (fn_X3_fail F sh n z1 62 iv) (fun z2 _ => k z2)) = k z' ∧ CR sh n z' kp f ls ns (r >>= fun L => nd_ (!g L) v >>= fun _ => .ok L) ∧ FrQc z z' ∧ ∀ M, (r >>= fun L => nd_ (!g L) v >>= fun _ => .ok L) = .ok M → z' = z := by
  subst ev
  cases r with
  | error w =>
    obtain ⟨b, e⟩ := her w rfl
    rw [e, cal_s, h.2.fail_e h.1, cal_s]
    refine ⟨z, ?_, h, FrQc.rfl', fun M q => rfl⟩
    by_cases c : b = 0
    · rw [if_pos c]
    · rw [if_neg c]
  | ok M =>
    rw [hok M rfl, cal_s]
    show ∃ z', _ ∧ CR sh n z' kp f ls ns (nd_ (!g M) v >>= fun _ => .ok M) ∧ _ ∧ ∀ M', (nd_ (!g M) v >>= fun _ => .ok M) = .ok M' → z' = z
    cases e : g M with
    | false => rw [if_pos (show bI false = 0 from rfl)]; exact ⟨z, rfl, h, FrQc.rfl', fun M q => rfl⟩
    | true =>
      obtain ⟨z1, q1, q2, q3⟩ := CB.fail (F := F) (CK.cb h) hv
      rw [if_neg (show ¬ bI true = 0 from one0), q1, cal_s]
      exact ⟨z1, rfl, ⟨h0, q2⟩, q3, fun M q => by cases q⟩
/-- two things are asked: the second only if the first is so -/
theorem CR.chk2 {r : Px Lks} (h : CR sh n z kp f ls ns r) {X Y : Option (St × Int32)} {v : Nat} {iv : Int32} (ev : iv = nI v) (hv : v < 16) (h0 : 0 < v) {g1 g2 : Lks → Bool} (hok : ∀ M, r = .ok M → X = some (z, bI (g1 M)) ∧ Y = some (z, bI (g2 M))) (her : ∀ w, r = .error w → (∃ b, X = some (z, b)) ∧ ∃ b, Y = some (z, b)) {k : St → Option (St × Unit)} {Yf : St → Option (St × Int32)} (hY : Yf z = Y) : ∃ z', cal X (fun z0 r0 => if r0 = 0 then k z0 else cal (Yf z0) (fun z1 r1 => if r1 = 0 then cal (fn_X3_fail F sh n z1 62 iv) (fun z2 _ => k z2) else k z1)) = k z' ∧ CR sh n z' kp f ls ns (r >>= fun L => nd_ (!g1 L || g2 L) v >>= fun _ => .ok L) ∧ FrQc z z' ∧ ∀ M, (r >>= fun L => nd_ (!g1 L || g2 L) v >>= fun _ => .ok L) = .ok M → z' = z := by
  cases r with
  | error w =>
    obtain ⟨⟨b, e⟩, b2, e2⟩ := her w rfl
    rw [e, cal_s, hY, e2, cal_s, h.2.fail_e h.1, cal_s]
    refine ⟨z, ?_, h, FrQc.rfl', fun M q => rfl⟩
    by_cases c : b = 0
    · rw [if_pos c]
    · rw [if_neg c]
      by_cases c2 : b2 = 0
      · rw [if_pos c2]
      · rw [if_neg c2]
  | ok M =>
    obtain ⟨e1, e2⟩ := hok M rfl
    rw [e1, cal_s, hY]
    show ∃ z', _ ∧ CR sh n z' kp f ls ns (nd_ (!g1 M || g2 M) v >>= fun _ => .ok M) ∧ _ ∧ ∀ M', (nd_ (!g1 M || g2 M) v >>= fun _ => .ok M) = .ok M' → z' = z
    cases e : g1 M with
    | false => rw [if_pos (show bI false = 0 from rfl)]; exact ⟨z, rfl, h, FrQc.rfl', fun M q => rfl⟩
    | true =>
      rw [if_neg (show ¬ bI true = 0 from one0)]
      obtain ⟨z', q1, q2, q3, q4⟩ := CR.chk (F := F) (r := .ok M) h ev hv h0 (g := g2) (X := Y) (fun M' q => by cases q; exact e2) (fun w q => by cases q) (k := k)
      exact ⟨z', q1, q2, q3, q4⟩
end
