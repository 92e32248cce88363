/-! THE START: the invariant -/
theorem pic_0 : PicOk bC 81 M0 := (pAll_p coin_all).1
theorem sw_0 : SWo (fun _ => U0) 0 (fun _ _ => 2) := by
  refine ⟨⟨rfl, fun i _ => by rw [U0_n]; decide, fun i j hi hj _ => by omega⟩, rfl, by omega, fun i hi => ?_⟩
  have i0 : i = 0 := by omega
  subst i0
  refine ⟨sMd_of (fun q _ => bOf_lt _) (pAll_p coin_all).1 (by omega) coin_j, fun s _ => ⟨by show 1 ≤ 2; omega, by show 2 ≤ 24; omega⟩, fun s hs => ?_, fun s hs => ?_, fun s hs t ht => ?_, fun h => absurd h (by omega)⟩
  · have s0 : s = 0 := by
      have : U0.1.2.2 = 1 := rfl
      have hs' : s < U0.1.2.2 := hs
      omega
    subst s0
    exact ⟨0, Nat.le_refl _, rfl, by decide, rfl⟩
  · have s0 : s = 0 := by
      have : U0.1.2.1 = 1 := rfl
      have hs' : s < U0.1.2.1 := hs
      omega
    subst s0
    rfl
  · have s0 : s = 0 := by
      have : U0.1.2.1 = 1 := rfl
      have hs' : s < U0.1.2.1 := hs
      omega
    subst s0
    have e : fdsOf U0 0 = [[3]] := rfl
    rw [e] at ht
    have e2 : t = [3] := by simpa using ht
    subst e2
    show dT _ [3] < 2
    decide
theorem cnt_0 : ∀ n, cntO (fun r => ((fun _ => none : Nat → Option Rsc) r).isSome) n = 0
  | 0 => rfl
  | n + 1 => by
    unfold cntO
    rw [cnt_0 n]; rfl
theorem iv_of {RV : RtV} {sh : Nat → Nat × Nat} {z : St} (hRV : ∀ bs ac rs j, RV 0 bs 0 ac 0 rs j = 0) (hL : Lay sh 513 z) (f : [z.1 0 1, z.1 0 2, z.1 0 4, z.1 0 5, z.1 0 12, z.1 3 3, z.1 3 5, z.1 3 10, z.1 88 6, z.1 87 18, z.1 337 3, z.1 337 5, z.1 337 9, z.1 337 22, z.1 337 50, z.1 337 51, z.1 337 52, z.1 337 53, z.1 337 75] = List.replicate 19 0) (g : [z.2.1 3 14, z.2.1 3 15, z.2.1 337 20, z.2.1 337 21, z.2.1 74 0, z.2.1 74 1, z.2.1 74 2, z.2.1 74 3] = List.replicate 8 0) (t1 : ∀ p, p < 2048 → z.1 1 p = 0) (t2 : ∀ p, p < 256 → z.1 11 p = 0) (hc : z.2.2 15 0 = some CBK ∧ z.1 15 1 = nI 81 ∧ z.1 18 6 = nI 2) (hm : TMc z 15 bC M0) (hk : Kpt 513 z) : IV RV 0 sh 513 z := by
  simp only [List.replicate, List.cons.injEq, and_true] at f g
  obtain ⟨f1, f2, f3, f4, f5, f6, f7, f8, f9, f10, f11, f12, f13, f14, f15, f16, f17, f18, f19⟩ := f
  obtain ⟨g1, g2, g3, g4, g5, g6, g7, g8⟩ := g
  obtain ⟨c1, c2, c3⟩ := hc
  refine ⟨⟨fun _ => U0, 0, fun _ _ => 2, fun _ => (0, fun _ => 0), 0, fun _ => (0, 0, 0), 0, fun _ => (0, 0, fun _ => (0, 0, 0, []), 0), fun _ => none, 0, ⟨⟨hL, f12, by omega, fun i a b => by omega⟩, ⟨hL, f7, by omega, fun i hi => ?_⟩, sw_0, fun i a b => by omega⟩, ⟨⟨⟨⟨f11, by omega, fun i hi => by omega⟩, f13, by omega, fun i hi => by omega⟩, ⟨⟨f6, by omega, fun i hi => by omega⟩, f8, by omega, fun r hr => ⟨fun _ => t2 r hr, fun x hx => (by cases hx)⟩⟩, ⟨fun i hi => by omega, fun r x _ hx => (by cases hx), fun i j hi => by omega, fun r r' x x' _ _ hx => (by cases hx), ?_⟩, fun i j hi => by omega, by omega⟩, ⟨⟨fun _ _ _ => 0, ⟨fun i hi => by omega, fun i tq hi => by omega⟩, fun l _ => ?_⟩, by omega⟩, ⟨by rw [g3, g1], by rw [g4, g2], by rw [g3, g4]; rfl⟩, by rw [f14, f9], f9⟩, ?_, ⟨0, 0, ⟨f17, f3, by omega⟩, ⟨f18, f4, by omega⟩, fun t ht => by omega, fun t ht => by omega, fun t _ ht => by omega⟩, ⟨0, 0, ⟨f1, f15, by omega⟩, fun p hp => by omega, fun p hp => by rw [t1 p hp]; decide, f2, f16, by omega⟩, 0, f5, f19, by omega, fun p hp => by omega⟩, hk, by omega⟩
  · have i0 : i = 0 := by omega
    subst i0
    have cp : CPr sh 513 z 15 CBK bC 81 M0 := ⟨⟨hL, ⟨0, by omega, rfl⟩, hm, pic_0⟩, c1, c2, by omega, fun p hp => ⟨fs_COIN p, by
      unfold rb
      rw [if_pos rfl, if_pos (okI_nI hp (by omega)), nI_clamp (by omega)], bOf_e _, bOf_lt _⟩⟩
    have kb5 : 513 ≤ CBK := by
      have : CBK = 1000000000 := rfl
      omega
    have dep : ∀ s, s < U0.1.2.1 → z.1 18 (7 * s + 6) = nI 2 ∧ 2 ≤ 24 := fun s hs => by
      have : U0.1.2.1 = 1 := rfl
      have s0 : s = 0 := by omega
      subst s0
      exact ⟨c3, by omega⟩
    show (∃ kb b len M, CPr sh 513 z 15 kb b len M ∧ U0 = mdOf b M ∧ 513 ≤ kb ∧ jM b M = none ∧ 6 ≤ len) ∧ ∀ s, s < U0.1.2.1 → z.1 18 (7 * s + 6) = nI 2 ∧ 2 ≤ 24
    exact ⟨⟨CBK, bC, 81, M0, cp, rfl, kb5, coin_j, by omega⟩, dep⟩
  · exact cnt_0 256
  · have : ∀ l : List (Nat × Int64 × Nat), smG (fun x => (fun (_ : Nat) (_ : Int64) (_ : Nat) => 0) x.1 x.2.1 x.2.2) l = 0 := fun l => by
      induction l with
      | nil => rfl
      | cons a l ih =>
        show 0 + smG _ l = 0
        rw [ih]
    exact Nat.le_of_eq (this l)
  · intro _ j hj
    rw [hRV]
    match j, hj with
    | 0, _ => exact g5
    | 1, _ => exact g6
    | 2, _ => exact g7
    | 3, _ => exact g8
theorem iv_0 {RV : RtV} (hRV : ∀ bs ac rs j, RV 0 bs 0 ac 0 rs j = 0) : IV RV 0 shI2 513 zI2 := by
  have tt : ((List.range 2048).all (fun p => zI2.1 1 p == 0) && (List.range 256).all (fun p => zI2.1 11 p == 0)) = true := st_T
  rw [Bool.and_eq_true] at tt
  exact iv_of hRV lay_B (beq_iff_eq.mp st_F) (beq_iff_eq.mp st_G) (fun p hp => beq_iff_eq.mp (List.all_eq_true.mp tt.1 p (List.mem_range.mpr hp))) (fun p hp => beq_iff_eq.mp (List.all_eq_true.mp tt.2 p (List.mem_range.mpr hp))) st_C st_M kpt_B
