/-! COINS: what a call may be given, and what it leaves -/
section
variable {E : Ev} {sd : Int64} {lim D nc nr i : Nat} {ac : Nat → Int64 × Int64 × Int64} {rs : Nat → Int64 × Nat × Hp × Nat} {led : Nat → Int64 → Nat → Nat}
theorem smG_o2 {α : Type} [DecidableEq α] {v : α} {l : List α} (h : v ∈ l) : ∃ B : List α, ∀ f : α → Nat, smG f l = f v + smG f B := ⟨l.erase v, fun f => smG_out f h⟩
theorem LdS.one (h : LdS led D) (s : Nat) (a : Int64) (k : Nat) : led s a k ≤ D := by
  have := h [(s, a, k)] (by simp)
  have e : smG (fun x : Nat × Int64 × Nat => led x.1 x.2.1 x.2.2) [(s, a, k)] = led s a k + 0 := rfl
  omega
/-- gas is paid -/
theorem LdT.pay (h : LdT E D nc ac nr rs) (uq : UqA nc ac) (hi : i < nc) {g : Nat} {q : Int64} (hg : g ≤ N (ac i).2.1) (hg2 : g ≤ 20000) : g ≤ D ∧ LdT E (D - g) nc (fun j => if j = i then ((ac j).1, (ac j).2.1 - lN g, q) else ac j) nr rs := by
  obtain ⟨led, ⟨h1, h2⟩, hS⟩ := h
  have b1 := h1 i hi
  have b2 := hS.one 1 (ac i).1 0
  refine ⟨by omega, fun s a k => if s = 1 ∧ a = (ac i).1 ∧ k = 0 then led s a k - g else led s a k, ⟨fun j hj => ?_, fun j tq hj hq t0 => ?_⟩, fun l hn => ?_⟩
  · by_cases c : j = i
    · subst c
      simp only [if_true, true_and, and_self]
      have e : N ((ac j).2.1 - lN g) + N (lN g) = N (ac j).2.1 := u_sub (ult_N.2.mpr (by rw [N_lN (by omega)]; omega))
      rw [N_lN (by omega)] at e
      omega
    · simp only [if_neg c, true_and]
      rw [if_neg (fun w => c (uq j i hj hi w.1))]
      exact h1 j hj
  · show _ ≤ (if 3 = 1 ∧ _ then _ else _)
    rw [if_neg (fun w => absurd w.1 (by decide))]
    exact h2 j tq hj hq t0
  · have le : smG (fun x : Nat × Int64 × Nat => if x.1 = 1 ∧ x.2.1 = (ac i).1 ∧ x.2.2 = 0 then led x.1 x.2.1 x.2.2 - g else led x.1 x.2.1 x.2.2) l + g ≤ D := by
      by_cases m : (1, (ac i).1, 0) ∈ l
      · obtain ⟨B, hB⟩ := smG_o2 m
        have o1 := hB (fun x : Nat × Int64 × Nat => if x.1 = 1 ∧ x.2.1 = (ac i).1 ∧ x.2.2 = 0 then led x.1 x.2.1 x.2.2 - g else led x.1 x.2.1 x.2.2)
        have o2 := hB (fun x : Nat × Int64 × Nat => led x.1 x.2.1 x.2.2)
        have o3 := hS l hn
        have o4 : smG (fun x : Nat × Int64 × Nat => if x.1 = 1 ∧ x.2.1 = (ac i).1 ∧ x.2.2 = 0 then led x.1 x.2.1 x.2.2 - g else led x.1 x.2.1 x.2.2) B ≤ smG (fun x : Nat × Int64 × Nat => led x.1 x.2.1 x.2.2) B := smG_le (fun x _ => by split <;> omega)
        have e1 : (if (1 : Nat) = 1 ∧ (ac i).1 = (ac i).1 ∧ (0 : Nat) = 0 then led 1 (ac i).1 0 - g else led 1 (ac i).1 0) = led 1 (ac i).1 0 - g := if_pos ⟨rfl, rfl, rfl⟩
        have o1' : _ = (if (1 : Nat) = 1 ∧ (ac i).1 = (ac i).1 ∧ (0 : Nat) = 0 then led 1 (ac i).1 0 - g else led 1 (ac i).1 0) + _ := o1
        rw [e1] at o1'
        have o2' : _ = led 1 (ac i).1 0 + _ := o2
        omega
      · have o3 := hS ((1, (ac i).1, 0) :: l) (List.nodup_cons.mpr ⟨m, hn⟩)
        have e : smG (fun x : Nat × Int64 × Nat => led x.1 x.2.1 x.2.2) ((1, (ac i).1, 0) :: l) = led 1 (ac i).1 0 + smG (fun x : Nat × Int64 × Nat => led x.1 x.2.1 x.2.2) l := rfl
        have o4 : smG (fun x : Nat × Int64 × Nat => if x.1 = 1 ∧ x.2.1 = (ac i).1 ∧ x.2.2 = 0 then led x.1 x.2.1 x.2.2 - g else led x.1 x.2.1 x.2.2) l ≤ smG (fun x : Nat × Int64 × Nat => led x.1 x.2.1 x.2.2) l := smG_le (fun x _ => by split <;> omega)
        omega
    exact Nat.le_sub_of_add_le le
theorem LdT.cg {ac' : Nat → Int64 × Int64 × Int64} (h : LdT E D nc ac nr rs) (e : ∀ j, j < nc → (ac' j).1 = (ac j).1 ∧ (ac' j).2.1 = (ac j).2.1) : LdT E D nc ac' nr rs := by
  obtain ⟨led, ⟨h1, h2⟩, hS⟩ := h
  exact ⟨led, ⟨fun j hj => by rw [(e j hj).1, (e j hj).2]; exact h1 j hj, h2⟩, hS⟩
theorem sN_ge {f : Nat → Nat} : ∀ {n : Nat}, 0 < n → f 0 ≤ sN f n
  | 0, h => absurd h (by omega)
  | n + 1, _ => by
    show f 0 ≤ sN f n + f n
    by_cases c : n = 0
    · subst c; omega
    · have := sN_ge (f := f) (n := n) (by omega); omega
/-- a call may be given this: E counts what the places had, less the limit that the sender put down -/
def Ldc (E : Ev) (led : Nat → Int64 → Nat → Nat) (D : Nat) (sd : Int64) (lim nc : Nat) (ac : Nat → Int64 × Int64 × Int64) (nr : Nat) (rs : Nat → Int64 × Nat × Hp × Nat) : Prop := LdQ E led nc ac nr rs ∧ LdS led D ∧ D < 2 ^ 62 ∧ lim ≤ N (acB nc ac sd) ∧ lim ≤ 20000 ∧ (∀ s a k, s ≠ 4 → E.2.2.2.2 s a k = if s = 1 ∧ a = sd ∧ k = 0 then led 1 sd 0 - lim else led s a k) ∧ (∀ a, E.2.2.2.2 4 a 0 ≠ 0 ↔ acT nc ac a = true) ∧ acT nc ac sd = true
theorem acB_at {a : Int64} {j : Nat} (h : fdA nc ac a = some j) : acB nc ac a = (ac j).2.1 ∧ j < nc ∧ (ac j).1 = a := by
  have hj := fd_lt _ _ _ h
  refine ⟨by unfold acB; rw [h], by omega, by simpa using hj.2.2⟩
theorem Ldc.ldE (h : Ldc E led D sd lim nc ac nr rs) : LdE E sd nc ac nr rs := by
  obtain ⟨⟨h1, h2⟩, h3, h4, h5, h6, h7, h8, h9⟩ := h
  refine ⟨fun a ha => ?_, fun a k i tq hi hq t0 => ?_, fun a ha => (h8 a).mp ha⟩
  · rw [h7 1 a 0 (by decide), if_neg (fun w => ha w.2.1)]
    cases q : fdA nc ac a with
    | none =>
      have : acB nc ac a = 0 := by unfold acB; rw [q]
      rw [this]; exact Nat.zero_le _
    | some j =>
      obtain ⟨e1, e2, e3⟩ := acB_at q
      have := h1 j e2
      rw [e3] at this
      rw [e1]; exact this
  · obtain ⟨k1, k2, k3⟩ := fdR_k hi
    rw [h7 3 a k (by decide), if_neg (fun w => absurd w.1 (by decide)), ← k2, ← k3]
    exact h2 i tq k1 hq (by rw [k3]; exact t0)
theorem Ldc.ld0 (h : Ldc E led D sd lim nc ac nr rs) (qi : fdA nc ac sd = some i) : N (acB nc ac sd - lN lim) ≤ E.2.2.2.2 1 sd 0 := by
  obtain ⟨⟨h1, h2⟩, h3, h4, h5, h6, h7, h8, h9⟩ := h
  obtain ⟨e1, e2, e3⟩ := acB_at qi
  have b := h1 i e2
  rw [e3] at b
  rw [h7 1 sd 0 (by decide), if_pos ⟨rfl, rfl, rfl⟩]
  have e : N (acB nc ac sd - lN lim) + N (lN lim) = N (acB nc ac sd) := u_sub (ult_N.2.mpr (by rw [N_lN (by omega)]; omega))
  rw [N_lN (by omega)] at e
  rw [e1] at e h5 ⊢
  omega
theorem Ldc.k0 (h : Ldc E led D sd lim nc ac nr rs) (uq : UqA nc ac) (qi : fdA nc ac sd = some i) : LdT E D nc ac nr rs ∧ ∀ i, i < nc → (ac i).1 = sd → lim ≤ N (ac i).2.1 := by
  obtain ⟨h1, h3, h4, h5, h6, h7, h8, h9⟩ := h
  obtain ⟨e1, e2, e3⟩ := acB_at qi
  refine ⟨⟨led, h1, h3⟩, fun j hj w => ?_⟩
  rw [uq j i hj e2 (by rw [w, e3]), ← e1]; exact h5
theorem Ldc.k1 (h : Ldc E led D sd lim nc ac nr rs) (hl : lim ≤ 20000) : KEnd E sd lim nc ac nr rs (fun nc' ac' nr' rs' => LdT E D nc' ac' nr' rs' ∧ ∀ i, i < nc' → (ac' i).1 = sd → lim ≤ N (ac' i).2.1) := by
  intro na ak H m ty fr nr1 rs1 nc' ac' nr' rs' h0 I dst ky rm wr wa pre
  obtain ⟨h1, h3, h4, h5, h6, h7, h8, h9⟩ := h
  have thr : ∀ i, i < nc → acT nc ac (ac i).1 = true := fun i hi => by
    unfold acT
    cases q : fdA nc ac (ac i).1 with
    | some j => rfl
    | none =>
      have := fd_no _ _ q i (by omega) (by omega)
      simp at this
  have b0 : lim ≤ led 1 sd 0 := by
    cases q : fdA nc ac sd with
    | none => unfold acT at h9; rw [q] at h9; cases h9
    | some j =>
      obtain ⟨e1, e2, e3⟩ := acB_at q
      have := h1.1 j e2
      rw [e3] at this
      rw [e1] at h5; omega
  have hE : ∀ s a k, s ≠ 4 → E.2.2.2.2 s a k + (if s = 1 ∧ a = sd ∧ k = 0 then lim else 0) ≤ led s a k := fun s a k hs => by
    rw [h7 s a k hs]
    by_cases c : s = 1 ∧ a = sd ∧ k = 0
    · rw [if_pos c, if_pos c, c.1, c.2.1, c.2.2]; omega
    · rw [if_neg c, if_neg c]; omega
  refine ⟨csv I dst ky h0 rm wr wa pre hl (fun i hi => (h8 _).mpr (thr i hi)) h1 h3 hE, fun i hi w => ?_⟩
  rcases wa i hi with ⟨i0, g1, g2, g3⟩ | ⟨j, _, g1, g2, g3, g4, g5⟩
  · exact absurd (by rw [h0.2.2, ← w, g2]) (g3 0 (by omega) h0.1 h0.2.1 (I.cp.2 0 h0.1 h0.2.1 (by rw [h0.2.2]; exact (h8 sd).mpr h9)))
  · have k0 : (ak 0).2.2.1 = 0 := by rcases ky 0 h0.1 with q | q | q <;> omega
    have kj : (ak j).2.2.1 = 0 := by rcases ky j g1 with q | q | q <;> omega
    have ej := dst j 0 g1 h0.1 (by rw [g2, h0.2.1]) (by rw [← g4, w, h0.2.2]) (by rw [kj, k0])
    subst ej
    have e5 := (akS_n ak lim 0).2.2.2.2
    rw [if_pos rfl] at e5
    rw [g5, e5]
    have c1 := I.cp.1 [] (by simp) (fun v hv => by cases hv)
    have c2 : bS ak na ≤ lS E ak na := by
      have e : smL (am H) [] = 0 := rfl
      omega
    have c3 : N (ak 0).2.2.2.1 ≤ bS ak na := by
      have e1 := sN_ge (f := fun k => ubA (ak k)) h0.1
      have e2 : ubA (ak 0) = N (ak 0).2.2.2.1 := by unfold ubA; rw [if_pos h0.2.1]
      unfold bS
      omega
    have c4 : lS E ak na ≤ D := by
      let nm : Nat → Nat × Int64 × Nat := fun j => ((ak j).1, (ak j).2.1, (ak j).2.2.1)
      have ndA : ((List.range na).map nm).Nodup := by
        unfold List.Nodup
        rw [List.pairwise_map]
        refine List.Pairwise.imp_of_mem (fun {a b} ha hb hab q => hab ?_) List.nodup_range
        have q' : ((ak a).1, (ak a).2.1, (ak a).2.2.1) = ((ak b).1, (ak b).2.1, (ak b).2.2.1) := q
        simp only [Prod.mk.injEq] at q'
        exact dst a b (List.mem_range.mp ha) (List.mem_range.mp hb) q'.1 q'.2.1 q'.2.2
      have := h3 _ ndA
      rw [smG_rg] at this
      refine Nat.le_trans (sN_le (fun j hj => ?_)) this
      have := hE (ak j).1 (ak j).2.1 (ak j).2.2.1 (by rcases ky j hj with q | q | q <;> omega)
      show ldA E (ak j) ≤ led (ak j).1 (ak j).2.1 (ak j).2.2.1
      unfold ldA
      omega
    have e6 : N ((ak 0).2.2.2.1 + lN lim) = N (ak 0).2.2.2.1 + lim := by
      have el : N (lN lim) = lim := N_lN (by omega)
      have e : ((ak 0).2.2.2.1 + lN lim).toBitVec = (ak 0).2.2.2.1.toBitVec + (lN lim).toBitVec := Int64.toBitVec_add ..
      unfold N at el ⊢
      rw [e, BitVec.toNat_add, el]
      have : (ak 0).2.2.2.1.toBitVec.toNat ≤ D := by have := c3; unfold N at this; omega
      exact Nat.mod_eq_of_lt (by omega)
    omega
end
