/-! BYTES OF A RESOURCE, the class's side -/
def KnO (k : Nat) : Prop := k = 1 ∨ k = 2 ∨ k = 3 ∨ k = 4 ∨ k = 5 ∨ k = 6 ∨ k = 7 ∨ k = 10
theorem TyE.kn {SF : Nat → List Nat} : ∀ d (E : List Ent), TyE SF d E → ∀ e, e ∈ E → KnO e.1
  | 0, _, h, _, _ => absurd h (by simp [TyE])
  | d + 1, E, h, e, he => by
    obtain ⟨x, Es, h1, h2, h3, h4, h5⟩ := h
    rw [h1] at he
    rcases List.mem_cons.mp he with q | q
    · rw [q]
      unfold KnO
      rcases h4 with a | a | a | a
      · omega
      · omega
      · omega
      · omega
    · obtain ⟨l, l1, l2⟩ := List.mem_flatten.mp q
      exact TyE.kn d l (h5 l l1) e l2
def kW (k : Nat) : Nat := if k = 1 ∨ k = 2 then 1 else if k = 7 then 2 else if k = 4 then 16 else if k = 6 then 0 else 8
def wB (hi x : Int64) : Nat → List Int32
  | 0 => []
  | c + 1 => lb (if c < 8 then x else hi) (c % 8) :: wB hi x c
theorem wB_len (hi x : Int64) : ∀ c, (wB hi x c).length = c
  | 0 => rfl
  | c + 1 => by
    show (wB hi x c).length + 1 = c + 1
    rw [wB_len hi x c]
theorem wB_g {e : Ent} (h : KnO e.1) : wB (if inn e.1 then lN e.2.2.2.1 else e.2.1) (if e.1 = 7 then (if inn e.1 then lN e.2.2.2.1 else e.2.1) else (if inn e.1 then 0 else e.2.2.1)) (kW e.1) = gB e := by
  obtain ⟨k, hi, lo, m, t⟩ := e
  have h' : KnO k := h
  show wB (if inn k then lN m else hi) (if k = 7 then (if inn k then lN m else hi) else (if inn k then 0 else lo)) (kW k) = kB k hi lo m
  unfold inn
  rcases h' with c | c | c | c | c | c | c | c
  all_goals subst c
  all_goals rfl
theorem kW_le {k : Nat} : kW k ≤ 16 := by
  unfold kW
  split
  · omega
  · split
    · omega
    · split
      · omega
      · split <;> omega
theorem wid_t {F n : Nat} {sh : Nat → Nat × Nat} {z : St} {k : Nat} (h : KnO k) : fn_X7_widthOf F sh n z (nI k) = some (z, nI (kW k)) := by
  rcases h with c | c | c | c | c | c | c | c
  all_goals subst c
  all_goals rfl
/-- bytes l were written into the row kd -/
def WB (y y' : St) (kd : Nat) (l : List Int32) : Prop := y'.2 = y.2 ∧ (∀ k, k ≠ kd → y'.1 k = y.1 k) ∧ ∀ p (h : p < l.length), y'.1 kd p &&& 255 = l[p]
theorem WB.nil {y : St} {kd : Nat} : WB y y kd [] := ⟨rfl, fun _ _ => rfl, fun p h => absurd h (by simp)⟩
theorem WB.put {y y' : St} {kd : Nat} {l : List Int32} (h : WB y y' kd l) {v b : Int32} (hb : v &&& 255 = b) : WB y (si y' kd l.length v) kd (l ++ [b]) := by
  refine ⟨h.1, fun k q => by rw [si_ok q]; exact h.2.1 k q, fun p hp => ?_⟩
  by_cases c : p = l.length
  · subst c
    rw [si_ss, hb]
    simp
  · rw [List.length_append, List.length_singleton] at hp
    rw [si_oj c, h.2.2 p (by omega), List.getElem_append_left (by omega)]
section
variable {F n : Nat} {sh : Nat → Nat × Nat} {y : St} {nc nr : Nat} {kd : Nat}
theorem wb_84 (hL : Lay sh n y) (hk1 : kd < n) (hk2 : sh kd = (100, 1024)) {i : Nat} (hi : i < 16384) {x : Int64} {ko : St → Int32 → Int32 → Option (St × Int32)} : ∀ c f l z', WB y z' kd l → c ≤ 16 → l.length + c ≤ 1024 → ∃ z'', fn_X7_writeBytes_L84 F sh n (nI i) kd x 3 ko (f + c + 1) z' (nI l.length) (nI c - 1) = ko z'' (nI (l ++ wB (y.2.1 13 i) x c).length) (nI (i + 1)) ∧ WB y z'' kd (l ++ wB (y.2.1 13 i) x c) := by
  intro c
  induction c with
  | zero =>
    intro f l z' w _ _
    refine ⟨z', ?_, by rw [show wB (y.2.1 13 i) x 0 = [] from rfl, List.append_nil]; exact w⟩
    rw [fn_X7_writeBytes_L84, if_pos (show nI 0 - 1 < 0 by decide), show nI i + 1 = nI (i + 1) from nI_add i 1, show wB (y.2.1 13 i) x 0 = [] from rfl, List.append_nil]
  | succ c ih =>
    intro f l z' w hc hl
    have e0 : nI (c + 1) - 1 = nI c := (pk_sub (a := c + 1) (b := 1) (by omega)).trans (by rw [show c + 1 - 1 = c by omega])
    have hz : Lay sh n z' := hL.of (by rw [w.1])
    have er : ((nI c - nI c / 8 * 8) * 8 : Int32) = nI (8 * (c % 8)) := by
      rw [show nI c - nI c / 8 * 8 = nI (c % 8) from pk_rem (by omega) (by decide) (by decide), show (8 : Int32) = nI 8 from rfl, pk_mul, Nat.mul_comm]
    have key : ∀ v : Int64, v = (if c < 8 then x else y.2.1 13 i) → ∃ z'', fn_X7_writeBytes_B108 F sh n kd (nI l.length) (nI c) (fun z9 q3 q8 => fn_X7_writeBytes_L84 F sh n (nI i) kd x 3 ko (f + c + 1) z9 q3 q8) z' v = ko z'' (nI (l ++ wB (y.2.1 13 i) x (c + 1)).length) (nI (i + 1)) ∧ WB y z'' kd (l ++ wB (y.2.1 13 i) x (c + 1)) := by
      intro v hv
      have hb : vp_nar .byte (((((((v : Int64).toUInt64 >>> ((nI (8 * (c % 8)) : Int32).toInt64.toUInt64 &&& Int64.toUInt64 63)).toInt64) : Int64).toInt32) : Int32).toInt8.toInt32) &&& 255 = lb v (c % 8) := by
        rw [nar8c]
        exact lb_X v (Nat.mod_lt _ (by decide))
      obtain ⟨z'', q1, q2⟩ := ih f (l ++ [lb v (c % 8)]) _ (w.put hb) (by omega) (by rw [List.length_append, List.length_singleton]; omega)
      refine ⟨z'', ?_, ?_⟩
      · unfold fn_X7_writeBytes_B108
        rw [er, okA_nI hk1 hk2 (show l.length < 1024 by omega) (by decide), grd_true, nI_clamp (show l.length < 2 ^ 31 by omega), lt_t, show nI l.length + 1 = nI (l.length + 1) from nI_add l.length 1, show nI c + (-1) = nI c - 1 from (Int32.sub_eq_add_neg _ _).symm]
        rw [List.length_append, List.length_singleton] at q1
        refine Eq.trans q1 ?_
        rw [hv, List.append_assoc]
        rfl
      · rw [hv, List.append_assoc] at q2
        exact q2
    rw [show f + (c + 1) + 1 = (f + c + 1) + 1 by omega, fn_X7_writeBytes_L84, e0, if_neg (nI_pos (by omega))]
    by_cases q : c < 8
    · rw [if_pos (show nI c < 8 from (nI_ltW (b := 8) (by omega) (by omega)).mpr q)]
      exact key x (by rw [if_pos q])
    · rw [if_neg (show ¬ nI c < 8 from fun e => q ((nI_ltW (b := 8) (by omega) (by omega)).mp e)), hz.2.2 3 12 13 rfl, lnk_s, lay_a hz 13 102 16384 (by decide) rfl, okI_nI hi (by omega), grd_true, nI_clamp (by omega)]
      exact key _ (by rw [if_neg q, w.1])
theorem wb_8 (hF : 100 ≤ F) (hL : Lay sh n y) (hk1 : kd < n) (hk2 : sh kd = (100, 1024)) (hk3 : kd ≠ 11) (hk4 : kd ≠ 12) {r : Nat} (hr : r < 256) {En : List Ent} (hn : y.1 11 r = nI En.length) (h64 : En.length ≤ 64) (hE : RowsC y En (r * 64)) (hk : ∀ e, e ∈ En → KnO e.1) : ∀ m p g l z', p + m = En.length → m < g → WB y z' kd l → l.length + 16 * m ≤ 1024 → ∃ z'', fn_X7_writeBytes_L8 F sh n 3 (nI r) kd g z' (nI l.length) (nI (r * 64 + p)) = some (z'', nI (l ++ (En.drop p).flatMap gB).length) ∧ WB y z'' kd (l ++ (En.drop p).flatMap gB) := by
  have e64 : (nI r * 64 + nI En.length : Int32) = nI (r * 64 + En.length) := by
    rw [show (64 : Int32) = nI 64 from rfl, pk_mul, nI_add]
  intro m
  induction m with
  | zero =>
    intro p g l z' h1 h2 w hl
    obtain ⟨g, rfl⟩ : ∃ q, g = q + 1 := ⟨g - 1, by omega⟩
    have hz : Lay sh n z' := hL.of (by rw [w.1])
    have ed : l ++ (En.drop p).flatMap gB = l := by
      rw [List.drop_eq_nil_of_le (by omega), List.flatMap_nil, List.append_nil]
    refine ⟨z', ?_, by rw [ed]; exact w⟩
    rw [ed]
    unfold fn_X7_writeBytes_L8
    rw [(b_state hz).1, grd_true, hz.2.2 3 9 11 rfl, lnk_s, lay_a hz 11 101 256 (by decide) rfl, okI_nI (by omega) (by omega), grd_true, nI_clamp (by omega), w.2.1 11 (by omega), hn, e64, if_pos ((nI_leW (by omega) (by omega)).mpr (by omega))]
  | succ m ih =>
    intro p g l z' h1 h2 w hl
    obtain ⟨g, rfl⟩ : ∃ q, g = q + 1 := ⟨g - 1, by omega⟩
    have hz : Lay sh n z' := hL.of (by rw [w.1])
    have hp : p < En.length := by omega
    obtain ⟨q1, q2, q3⟩ := hE p hp
    have mem : En[p] ∈ En := List.getElem_mem hp
    have kn := hk _ mem
    have ed : En.drop p = En[p] :: En.drop (p + 1) := List.drop_eq_getElem_cons hp
    have k11 : En[p].1 < 11 := by unfold KnO at kn; omega
    have wl : kW En[p].1 ≤ 16 := kW_le
    have key : ∀ x : Int64, x = (if En[p].1 = 7 then (if inn En[p].1 then lN En[p].2.2.2.1 else En[p].2.1) else (if inn En[p].1 then 0 else En[p].2.2.1)) → ∃ z'', fn_X7_writeBytes_B53 F sh n 3 (nI (r * 64 + p)) kd (nI l.length) (fun z9 q3 q4 => fn_X7_writeBytes_L8 F sh n 3 (nI r) kd g z9 q3 q4) z' x = some (z'', nI (l ++ (En.drop p).flatMap gB).length) ∧ WB y z'' kd (l ++ (En.drop p).flatMap gB) := by
      intro x hx
      subst hx
      obtain ⟨z1, a1, a2⟩ := wb_84 (F := F) (x := (if En[p].1 = 7 then (if inn En[p].1 then lN En[p].2.2.2.1 else En[p].2.1) else (if inn En[p].1 then 0 else En[p].2.2.1))) (ko := fun z9 q3 q4 => fn_X7_writeBytes_L8 F sh n 3 (nI r) kd g z9 q3 q4) hL hk1 hk2 (i := r * 64 + p) (by omega) (kW En[p].1) (F - kW En[p].1 - 1) l z' w wl (by omega)
      rw [q2, wB_g kn] at a1 a2
      have gl : (gB En[p]).length ≤ 16 := kB_len
      obtain ⟨z2, b1, b2⟩ := ih (p + 1) g (l ++ gB En[p]) z1 (by omega) (by omega) a2 (by rw [List.length_append]; omega)
      rw [ed, List.flatMap_cons, ← List.append_assoc]
      refine ⟨z2, ?_, b2⟩
      unfold fn_X7_writeBytes_B53
      rw [hz.2.2 3 11 12 rfl, lnk_s, lay_a hz 12 100 16384 (by decide) rfl, okI_nI (by omega) (by omega), grd_true, nI_clamp (by omega), w.2.1 12 (by omega), q1, wid_t kn, cal_s, okO_of hk1 (by rw [hk2]), grd_true, hk2]
      show (if nI l.length + nI (kW En[p].1) ≤ nI 1024 then _ else _) = _
      rw [nI_add, if_pos ((nI_leW (by omega) (by omega)).mpr (by omega)), lt_t]
      rw [show F - kW En[p].1 - 1 + kW En[p].1 + 1 = F by omega] at a1
      refine Eq.trans a1 ?_
      exact b1
    unfold fn_X7_writeBytes_L8
    rw [(b_state hz).1, grd_true, hz.2.2 3 9 11 rfl, lnk_s, lay_a hz 11 101 256 (by decide) rfl, okI_nI (by omega) (by omega), grd_true, nI_clamp (show r < 2 ^ 31 by omega), w.2.1 11 (by omega), hn, e64, if_neg (fun e => by have := (nI_leW (a := r * 64 + En.length) (b := r * 64 + p) (by omega) (by omega)).mp e; omega), hz.2.2 3 11 12 rfl, lnk_s, lay_a hz 12 100 16384 (by decide) rfl, okI_nI (by omega) (by omega), grd_true, nI_clamp (show r * 64 + p < 2 ^ 31 by omega), w.2.1 12 (by omega), q1]
    by_cases c : En[p].1 = 7
    · rw [if_pos (show nI En[p].1 = 7 by rw [c]; rfl), hz.2.2 3 12 13 rfl, lnk_s, lay_a hz 13 102 16384 (by decide) rfl, okI_nI (by omega) (by omega), grd_true]
      exact key _ (by rw [if_pos c, w.1, q2])
    · rw [if_neg (show ¬ nI En[p].1 = 7 from fun e => c (nI_uq (b := 7) e (by omega) (by omega))), hz.2.2 3 13 14 rfl, lnk_s, lay_a hz 14 102 16384 (by decide) rfl, okI_nI (by omega) (by omega), grd_true]
      exact key _ (by rw [if_neg c, w.1, q3])
theorem wb_t (hF : 100 ≤ F) (hL : Lay sh n y) (hk1 : kd < n) (hk2 : sh kd = (100, 1024)) (hk3 : kd ≠ 11) (hk4 : kd ≠ 12) {r : Nat} (hr : r < 256) {En : List Ent} (hn : y.1 11 r = nI En.length) (h64 : En.length ≤ 64) (hE : RowsC y En (r * 64)) (hk : ∀ e, e ∈ En → KnO e.1) : ∃ y', fn_X7_writeBytes F sh n y 3 (nI r) kd = some (y', nI (En.flatMap gB).length) ∧ WB y y' kd (En.flatMap gB) := by
  obtain ⟨z, a, b⟩ := wb_8 (F := F) hF hL hk1 hk2 hk3 hk4 hr hn h64 hE hk En.length 0 F [] y (by omega) (by omega) WB.nil (by simp; omega)
  refine ⟨z, ?_, b⟩
  unfold fn_X7_writeBytes
  rw [lt_t, show (nI r * 64 : Int32) = nI (r * 64 + 0) by rw [show (64 : Int32) = nI 64 from rfl, pk_mul, Nat.add_zero]]
  exact a
end
