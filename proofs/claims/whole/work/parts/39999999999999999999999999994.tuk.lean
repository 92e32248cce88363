/-! PLACES IN ORDER, THE TREE OVER THEM -/
abbrev D4 : Type := Nat → Int64
/-- a place: its key, (kind, address, module and structure), its value -/
abbrev Plc : Type := D4 × (Nat × Int64 × Nat) × D4
def rw7 (x : Plc) : Nat → Int64 := fun k => if k < 4 then x.1 k else if k = 4 then lN x.2.1.1 else if k = 5 then x.2.1.2.1 else lN x.2.1.2.2
def kyN (x : Plc) : Nat := wdN x.1 4 0
def rwN (x : Plc) : Nat := wdN (rw7 x) 7 0
def idN (x : Plc) : Nat := wdN (rw7 x) 3 4
theorem kyN_b (x : Plc) : kyN x < 2 ^ 256 := wdN_b x.1 4 0
theorem kyN_7 (x : Plc) : wdN (rw7 x) 4 0 = kyN x := wdN_c 4 0 (fun i hi => by
  unfold rw7
  rw [if_pos (by omega)])
theorem rwN_e (x : Plc) : rwN x = kyN x * 2 ^ 192 + idN x := by
  have := wdN_a (rw7 x) 3 4 0
  rw [kyN_7] at this
  exact this
theorem idN_b (x : Plc) : idN x < 2 ^ 192 := wdN_b (rw7 x) 3 4
theorem rw_k {x y : Plc} (h : rwN x ≤ rwN y) : kyN x ≤ kyN y := by
  rw [rwN_e, rwN_e] at h
  have := idN_b x
  have := idN_b y
  omega
theorem rw_i {x y : Plc} (h : kyN x = kyN y) : rwN x ≤ rwN y ↔ idN x ≤ idN y := by
  rw [rwN_e, rwN_e, h]
  omega
def SrK (S : List Plc) : Prop := S.Pairwise (fun x y => kyN x < kyN y)
def SrP (P S : List Plc) : Prop := SrK S ∧ (∀ x, x ∈ S → x ∈ P ∧ ∀ y, y ∈ P → kyN y = kyN x → idN x ≤ idN y) ∧ ∀ y, y ∈ P → ∃ x, x ∈ S ∧ kyN x = kyN y
def UqP (P : List Plc) : Prop := ∀ x y, x ∈ P → y ∈ P → kyN x = kyN y → idN x = idN y → x = y
theorem SrK.eq : ∀ {S S' : List Plc}, SrK S → SrK S' → (∀ x, x ∈ S ↔ x ∈ S') → S = S'
  | [], [], _, _, _ => rfl
  | [], y :: S', _, _, h => absurd ((h y).mpr (List.mem_cons_self ..)) (by simp)
  | x :: S, [], _, _, h => absurd ((h x).mp (List.mem_cons_self ..)) (by simp)
  | x :: S, y :: S', h1, h2, h => by
    obtain ⟨a1, a2⟩ := List.pairwise_cons.mp h1
    obtain ⟨b1, b2⟩ := List.pairwise_cons.mp h2
    have e : x = y := by
      rcases List.mem_cons.mp ((h x).mp (List.mem_cons_self ..)) with c | c
      · exact c
      · rcases List.mem_cons.mp ((h y).mpr (List.mem_cons_self ..)) with d | d
        · exact d.symm
        · have := a1 y d
          have := b1 x c
          omega
    subst e
    rw [SrK.eq (S := S) (S' := S') a2 b2 (fun z => ⟨fun hz => ?_, fun hz => ?_⟩)]
    · rcases List.mem_cons.mp ((h z).mp (List.mem_cons_of_mem _ hz)) with c | c
      · have := a1 z hz
        rw [c] at this
        omega
      · exact c
    · rcases List.mem_cons.mp ((h z).mpr (List.mem_cons_of_mem _ hz)) with c | c
      · have := b1 z hz
        rw [c] at this
        omega
      · exact c
theorem SrP.uniq {P P' S S' : List Plc} (h : SrP P S) (h' : SrP P' S') (u : UqP P) (e : ∀ x, x ∈ P ↔ x ∈ P') : S = S' := by
  refine SrK.eq h.1 h'.1 (fun x => ⟨fun hx => ?_, fun hx => ?_⟩)
  · obtain ⟨a1, a2⟩ := h.2.1 x hx
    obtain ⟨y, y1, y2⟩ := h'.2.2 x ((e x).mp a1)
    obtain ⟨b1, b2⟩ := h'.2.1 y y1
    have c1 := a2 y ((e y).mpr b1) y2
    have c2 := b2 x ((e x).mp a1) y2.symm
    rw [u x y a1 ((e y).mpr b1) y2.symm (by omega)]
    exact y1
  · obtain ⟨a1, a2⟩ := h'.2.1 x hx
    obtain ⟨y, y1, y2⟩ := h.2.2 x ((e x).mpr a1)
    obtain ⟨b1, b2⟩ := h.2.1 y y1
    have c1 := a2 y ((e y).mp b1) y2
    have c2 := b2 x ((e x).mpr a1) y2.symm
    rw [u x y ((e x).mpr a1) b1 y2.symm (by omega)]
    exact y1
def bt0 (L : Nat) (x : Plc) : Bool := decide (kbt (kyN x) L = 0)
def bt1 (L : Nat) (x : Plc) : Bool := decide (kbt (kyN x) L = 1)
/-- the tree over places -/
def trD (H : D4 → D4 → D4) (lf : Plc → D4) : Nat → List Plc → D4
  | _, [] => fun _ => 0
  | _, [x] => lf x
  | 0, x :: _ :: _ => lf x
  | f + 1, x :: y :: r => H (trD H lf f ((x :: y :: r).filter (bt0 (255 - f)))) (trD H lf f ((x :: y :: r).filter (bt1 (255 - f))))
section
variable {H : D4 → D4 → D4} {lf : Plc → D4} {f : Nat} {S A B : List Plc}
theorem trD_n : trD H lf f [] = fun _ => 0 := by cases f <;> rfl
theorem trD_1 {x : Plc} : trD H lf f [x] = lf x := by cases f <;> rfl
theorem trD_s (h : 2 ≤ S.length) : trD H lf (f + 1) S = H (trD H lf f (S.filter (bt0 (255 - f)))) (trD H lf f (S.filter (bt1 (255 - f)))) := by
  cases S with
  | nil => simp at h
  | cons x S =>
    cases S with
    | nil => simp at h
    | cons y S => rfl
def AllB (L v : Nat) (S : List Plc) : Prop := ∀ x, x ∈ S → kbt (kyN x) L = v
theorem fl00 {L : Nat} (h : AllB L 0 S) : S.filter (bt0 L) = S ∧ S.filter (bt1 L) = [] := by
  refine ⟨List.filter_eq_self.mpr (fun x hx => decide_eq_true (h x hx)), List.filter_eq_nil_iff.mpr (fun x hx => ?_)⟩
  unfold bt1
  rw [h x hx]
  decide
theorem fl11 {L : Nat} (h : AllB L 1 S) : S.filter (bt1 L) = S ∧ S.filter (bt0 L) = [] := by
  refine ⟨List.filter_eq_self.mpr (fun x hx => decide_eq_true (h x hx)), List.filter_eq_nil_iff.mpr (fun x hx => ?_)⟩
  unfold bt0
  rw [h x hx]
  decide
theorem trD_l (h : 2 ≤ S.length) (a : AllB (255 - f) 0 S) : trD H lf (f + 1) S = H (trD H lf f S) (fun _ => 0) := by
  rw [trD_s h, (fl00 a).1, (fl00 a).2, trD_n]
theorem trD_r (h : 2 ≤ S.length) (a : AllB (255 - f) 1 S) : trD H lf (f + 1) S = H (fun _ => 0) (trD H lf f S) := by
  rw [trD_s h, (fl11 a).1, (fl11 a).2, trD_n]
theorem trD_b (hA : A ≠ []) (hB : B ≠ []) (a : AllB (255 - f) 0 A) (b : AllB (255 - f) 1 B) : trD H lf (f + 1) (A ++ B) = H (trD H lf f A) (trD H lf f B) := by
  have l1 := List.length_pos_iff.mpr hA
  have l2 := List.length_pos_iff.mpr hB
  rw [trD_s (by rw [List.length_append]; omega), List.filter_append, List.filter_append, (fl00 a).1, (fl00 a).2, (fl11 b).1, (fl11 b).2, List.append_nil, List.nil_append]
end
/-- places that share their first L bits -/
def Shr (L : Nat) (S : List Plc) : Prop := ∀ x y, x ∈ S → y ∈ S → cut (kyN x) L = cut (kyN y) L
theorem Shr.split {L : Nat} (hL : L < 256) : ∀ {S : List Plc}, SrK S → Shr L S → ∃ A B, S = A ++ B ∧ AllB L 0 A ∧ AllB L 1 B
  | [], _, _ => ⟨[], [], rfl, fun x h => absurd h (by simp), fun x h => absurd h (by simp)⟩
  | x :: S, h, s => by
    obtain ⟨a1, a2⟩ := List.pairwise_cons.mp h
    rcases kbt_2 (k := kyN x) (L := L) with c | c
    · obtain ⟨A, B, e, q1, q2⟩ := Shr.split (S := S) hL a2 (fun u v hu hv => s u v (List.mem_cons_of_mem _ hu) (List.mem_cons_of_mem _ hv))
      refine ⟨x :: A, B, by rw [e]; rfl, fun u hu => ?_, q2⟩
      rcases List.mem_cons.mp hu with w | w
      · rw [w]; exact c
      · exact q1 u w
    · refine ⟨[], x :: S, rfl, fun u hu => absurd hu (by simp), fun u hu => ?_⟩
      rcases List.mem_cons.mp hu with w | w
      · rw [w]; exact c
      · have m := cut_m (k := kyN x) (k' := kyN u) (L := L + 1) (Nat.le_of_lt (a1 u w))
        have e := s x u (List.mem_cons_self ..) hu
        rw [kbt_c hL, kbt_c hL, e, c] at m
        rcases kbt_2 (k := kyN u) (L := L) with d | d
        · rw [d] at m; omega
        · exact d
theorem Shr.up {L : Nat} (hL : L < 256) {S : List Plc} {v : Nat} (s : Shr L S) (a : AllB L v S) : Shr (L + 1) S := fun x y hx hy => by
  rw [kbt_c hL, kbt_c hL, s x y hx hy, a x hx, a y hy]
theorem Shr.one {S : List Plc} (h : SrK S) (s : Shr 256 S) (n : S ≠ []) : ∃ x, S = [x] := by
  cases S with
  | nil => exact absurd rfl n
  | cons x S =>
    cases S with
    | nil => exact ⟨x, rfl⟩
    | cons y S =>
      have a := (List.pairwise_cons.mp h).1 y (List.mem_cons_self ..)
      have b := s x y (List.mem_cons_self ..) (List.mem_cons_of_mem _ (List.mem_cons_self ..))
      rw [cut_256, cut_256] at b
      omega
/-- where two keys part -/
def PtR (a b u : Nat) : Prop := 1 ≤ u ∧ u ≤ 256 ∧ cut a (u - 1) = cut b (u - 1) ∧ cut a u ≠ cut b u
theorem PtR.gt {a b u L : Nat} (h : PtR a b u) (hL : L ≤ 256) (e : cut a L = cut b L) : L < u := by
  apply Nat.lt_of_not_le
  intro w
  exact h.2.2.2 (cut_lo e w hL)
theorem PtR.le {a b u L : Nat} (h : PtR a b u) (e : cut a L ≠ cut b L) : u ≤ L := by
  apply Nat.le_of_not_lt
  intro w
  exact e (cut_lo h.2.2.1 (by omega) (by have := h.2.1; omega))
