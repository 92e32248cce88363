/-! THE REFERENCE'S LOOKER: coming, as a whole -/
def CmR (sh : Nat → Nat × Nat) (n : Nat) (z : St) (ku f : Nat) (ls : List Ty) (ns : Nat) (L : Lks) : Px (Nat → Option Lc) → Prop
  | .ok R => RK sh n z ku f ls ns 0 L ∧ RcS z ls.length R
  | .error w => 0 < w ∧ ∃ M, RK sh n z ku f ls ns w M
section
variable {F n : Nat} {sh : Nat → Nat × Nat} {z z' : St} {ku f w ns : Nat} {ls : List Ty} {L M : Lks} {U : Md} {R : Nat → Option Lc}
theorem come_x (h : RK sh n z ku f ls ns w L) (hw : 0 < w) {g : Nat} (hg : 0 < g) (t p3 x0 p : Int32) : fn_X13_come_L38 F sh n 355 t p3 x0 g z p = some (z, ()) := by
  obtain ⟨g, rfl⟩ : ∃ q, g = q + 1 := ⟨g - 1, by omega⟩
  unfold fn_X13_come_L38
  rw [if_neg (h.ee hw)]
  by_cases c : z.1 355 2 ≤ p
  · rw [if_pos c]
  · rw [if_neg c]
theorem come_m (hF : 300 ≤ F) (hu : ∀ z', FrL2 z z' → UnL F sh n z' ku U) (hm : MdO U) {i t : Nat} (ht : t < 1025) (hi : i < t) {Q : Lc} : ∀ r p g z1, p + r = ls.length → r < g → RK sh n z1 ku f ls U.1.2.2 0 L → RcP z1 ls.length R t (mgO Q L.2) (some Q) p → FrL2 z z1 → ∃ z', fn_X13_come_L38 F sh n 355 (nI t) 0 (nI i) g z1 (nI p) = some (z', ()) ∧ CmR sh n z' ku f ls U.1.2.2 L (nd_ ((List.range' p r).all (mgB U ls Q L.2)) 9 >>= fun _ => .ok (setR R t (mgO Q L.2))) ∧ FrL2 z1 z' := by
  intro r
  induction r with
  | zero =>
    intro p g z1 ep hg k P fz
    obtain ⟨g, rfl⟩ : ∃ q, g = q + 1 := ⟨g - 1, by omega⟩
    have a5 := k.2.1.2.2.2.1
    conv => enter [1, z', 1, 1]; unfold fn_X13_come_L38
    rw [k.2.1.2.2.1, if_pos ((nI_leI (by omega) (by omega)).mpr (by omega))]
    exact ⟨z1, rfl, ⟨k, P.done (by omega)⟩, FrL2.rfl'⟩
  | succ r ih =>
    intro p g z1 ep hg k P fz
    obtain ⟨g, rfl⟩ : ∃ q, g = q + 1 := ⟨g - 1, by omega⟩
    have a5 := k.2.1.2.2.2.1
    have hp : p < ls.length := by omega
    obtain ⟨z2, q1, q2, q3, q5⟩ := meet_t (F := F) hF k (hu z1 fz) hm (j := 40 * t + p) (by omega) hp (P.2.2.2 Q rfl p (by omega) hp)
    have k3 := q2.put3 (40 * t + p) ((mgO Q L.2).1 p) ((mgO Q L.2).2.1 p) ((mgO Q L.2).2.2 p)
    have f3 := q3.l2.trans (st3_l2 z2 (40 * t + p) ((mgO Q L.2).1 p) ((mgO Q L.2).2.1 p) ((mgO Q L.2).2.2 p))
    conv => enter [1, z', 1, 1]; unfold fn_X13_come_L38
    rw [k.2.1.2.2.1, if_neg (fun q => by have := (nI_leI (by omega) (by omega)).mp q; omega), if_pos k.e0, v40 ht (by omega), lt_t, if_pos rfl, if_neg (fun q => by have := (nI_leI (by omega) (by omega)).mp q; omega), q1, cal_s]
    unfold fn_X13_come_B168
    rw [nI_1, rng_a]
    cases c : mgB U ls Q L.2 p with
    | false =>
      rw [c] at k3
      exact ⟨_, come_x (F := F) k3 (by decide) (by omega) _ _ _ _, ⟨by decide, _, k3⟩, f3⟩
    | true =>
      rw [c] at k3
      obtain ⟨z4, s1, s2, s3⟩ := ih (p + 1) g _ (by omega) (by omega) k3 ((P.f5 q5).put hp a5) (fz.trans f3)
      rw [Bool.true_and]
      exact ⟨z4, s1, s2, f3.trans s3⟩
theorem come_b (hF : 300 ≤ F) (hu : ∀ z', FrL2 z z' → UnL F sh n z' ku U) (hm : MdO U) {i t : Nat} (ht : t < 1025) (hi : t ≤ i) (hi2 : i < 1025) {Q : Lc} (hQ : R t = some Q) : ∀ r p g z1, p + r = ls.length → r < g → RK sh n z1 ku f ls U.1.2.2 0 L → RcS z1 ls.length R → FrL2 z z1 → ∃ z', fn_X13_come_L38 F sh n 355 (nI t) 0 (nI i) g z1 (nI p) = some (z', ()) ∧ CmR sh n z' ku f ls U.1.2.2 L (nd_ ((List.range' p r).all (bkO U ls Q L.2)) 9 >>= fun _ => .ok R) ∧ FrL2 z1 z' := by
  intro r
  induction r with
  | zero =>
    intro p g z1 ep hg k P fz
    obtain ⟨g, rfl⟩ : ∃ q, g = q + 1 := ⟨g - 1, by omega⟩
    have a5 := k.2.1.2.2.2.1
    conv => enter [1, z', 1, 1]; unfold fn_X13_come_L38
    rw [k.2.1.2.2.1, if_pos ((nI_leI (by omega) (by omega)).mpr (by omega))]
    exact ⟨z1, rfl, ⟨k, P⟩, FrL2.rfl'⟩
  | succ r ih =>
    intro p g z1 ep hg k P fz
    obtain ⟨g, rfl⟩ : ∃ q, g = q + 1 := ⟨g - 1, by omega⟩
    have a5 := k.2.1.2.2.2.1
    have hp : p < ls.length := by omega
    obtain ⟨z2, q1, q2, q3, q5⟩ := back_t (F := F) hF k (hu z1 fz) hm (j := 40 * t + p) (by omega) hp ((P t ht).2 Q hQ p hp)
    conv => enter [1, z', 1, 1]; unfold fn_X13_come_L38
    rw [k.2.1.2.2.1, if_neg (fun q => by have := (nI_leI (by omega) (by omega)).mp q; omega), if_pos k.e0, v40 ht (by omega), lt_t, if_pos rfl, if_pos ((nI_leI (by omega) (by omega)).mpr hi), q1, cal_s]
    unfold fn_X13_come_B168
    rw [nI_1, rng_a]
    cases c : bkO U ls Q L.2 p with
    | false =>
      rw [c] at q2
      exact ⟨_, come_x (F := F) q2 (by decide) (by omega) _ _ _ _, ⟨by decide, _, q2⟩, q3.l2⟩
    | true =>
      rw [c] at q2
      obtain ⟨z4, s1, s2, s3⟩ := ih (p + 1) g _ (by omega) (by omega) q2 (P.f5 q5) (fz.trans q3.l2)
      rw [Bool.true_and]
      exact ⟨z4, s1, s2, q3.l2.trans s3⟩
theorem RK.come_e (h : RK sh n z ku f ls ns w L) (hw : 0 < w) (x y : Int32) : fn_X13_come F sh n z 355 x y = some (z, ()) := by
  unfold fn_X13_come
  rw [h.o13, grd_true, if_neg (h.ee hw)]
theorem RK.come (hF : 300 ≤ F) (h : RK sh n z ku f ls U.1.2.2 0 L) (P : RcS z ls.length R) (hu : ∀ z', FrL2 z z' → UnL F sh n z' ku U) (hm : MdO U) {i t : Nat} (ht : t < 1025) (hi2 : i < 1025) (hb : t ≤ i → (R t).isSome = true) : ∃ z', fn_X13_come F sh n z 355 (nI i) (nI t) = some (z', ()) ∧ CmR sh n z' ku f ls U.1.2.2 L (aCome U ls i t L.2 R) ∧ FrL2 z z' := by
  have a5 := h.2.1.2.2.2.1
  have ok7 : okA sh n 357 103 (nI t) = true := by rw [lay_a h.1 357 103 1025 (by omega) rfl]; exact okI_nI (by omega) (by omega)
  have ct : (nI t).toNatClampNeg = t := nI_clamp (by omega)
  have k1 : RK sh n (si z 357 t 1) ku f ls U.1.2.2 0 L := h.of3 rfl (fun k hk => ⟨by funext l; rw [si_ok (by omega)], rfl⟩)
  have f1 : FrL2 z (si z 357 t 1) := ⟨rfl, fun k hk => ⟨by funext l; rw [si_ok (by omega)], rfl⟩, by rw [si_ok (by omega)]⟩
  have ra : ∀ {j b o i}, rcA z j b o i → rcA (si z 357 t 1) j b o i := fun {j b o i} q => ⟨by rw [si_ok (by omega)]; exact q.1, q.2.1, by rw [si_ok (by omega)]; exact q.2.2⟩
  have o1 : ∀ t', t' < 1025 → t' ≠ t → (si z 357 t 1).1 357 t' = bI (R t').isSome ∧ ∀ Q, R t' = some Q → ∀ k, k < ls.length → rcA (si z 357 t 1) (40 * t' + k) (Q.1 k) (Q.2.1 k) (Q.2.2 k) := fun t' h1 h2 => ⟨by rw [si_oj h2]; exact (P t' h1).1, fun Q e k hk => ra ((P t' h1).2 Q e k hk)⟩
  have b27 : ∀ p3 : Int32, fn_X13_come_B27 F sh n 355 (nI t) (nI i) z p3 = fn_X13_come_L38 F sh n 355 (nI t) p3 (nI i) F (si z 357 t 1) 0 := fun p3 => by
    unfold fn_X13_come_B27
    rw [h.1.2.2 355 6 357 rfl, lnk_s, ok7, grd_true, lt_t, ct]
    rfl
  unfold fn_X13_come aCome
  rw [h.o13, grd_true, if_pos h.e0]
  cases e : R t with
  | none =>
    have c : ¬ t ≤ i := fun q => by have := hb q; rw [e] at this; exact absurd this (by simp)
    have e7 : z.1 357 t = 0 := by rw [(P t ht).1, e]; rfl
    rw [if_neg (fun q => c ((nI_leI (by omega) (by omega)).mp q)), h.1.2.2 355 6 357 rfl, lnk_s, ok7, grd_true, ct, if_pos e7, b27]
    obtain ⟨z2, s1, s2, s3, s4⟩ := come_f (F := F) ht (nI i) ls.length 0 F _ (by omega) (by omega) k1 (⟨o1, si_ss, fun k hk => absurd hk (by omega), fun Q q => by cases q⟩ : RcP (si z 357 t 1) ls.length R t (nrm L.2) none 0)
    exact ⟨z2, s1, ⟨s2, s3⟩, f1.trans s4⟩
  | some Q =>
    have e7 : ¬ z.1 357 t = 0 := by rw [(P t ht).1, e]; exact one0
    show ∃ z', _ ∧ CmR sh n z' ku f ls U.1.2.2 L (if t ≤ i then _ else _) ∧ _
    by_cases c : t ≤ i
    · rw [if_pos ((nI_leI (by omega) (by omega)).mpr c), if_pos c]
      unfold fn_X13_come_B26
      rw [b27]
      have P1 : RcS (si z 357 t 1) ls.length R := fun t' h1 => by
        by_cases d : t' = t
        · subst d
          exact ⟨by rw [si_ss, e]; rfl, fun Q e k hk => ra ((P t' h1).2 Q e k hk)⟩
        · exact o1 t' h1 d
      obtain ⟨z2, s1, s2, s3⟩ := come_b (F := F) hF hu hm ht c hi2 e ls.length 0 F _ (by omega) (by omega) k1 P1 f1
      rw [← List.range_eq_range'] at s2
      exact ⟨z2, s1, s2, f1.trans s3⟩
    · rw [if_neg (fun q => c ((nI_leI (by omega) (by omega)).mp q)), if_neg c, h.1.2.2 355 6 357 rfl, lnk_s, ok7, grd_true, ct, if_neg e7]
      unfold fn_X13_come_B26
      rw [b27]
      obtain ⟨z2, s1, s2, s3⟩ := come_m (F := F) hF hu hm (i := i) ht (by omega) (Q := Q) ls.length 0 F _ (by omega) (by omega) k1 (⟨o1, si_ss, fun k hk => absurd hk (by omega), fun Q' q k _ hk => by cases q; exact ra ((P t ht).2 Q e k hk)⟩ : RcP (si z 357 t 1) ls.length R t (mgO Q L.2) (some Q) 0) f1
      rw [← List.range_eq_range'] at s2
      exact ⟨z2, s1, s2, f1.trans s3⟩
end
