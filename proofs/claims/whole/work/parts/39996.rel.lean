/-! CLASS AND REFERENCE: their heaps; phi names the class's node of each of the reference's -/
/-- the class's node for the reference's node v -/
def CN (H : Hp) (ty phi : Nat → Nat) (v : Nat) (x : Nd) : Prop := (ty v = 256 ∧ x.1 = 10 ∧ x.2.1 = 0 ∧ (∃ c, kds H v = [c] ∧ x.2.2.1 = (H c).2.2.1) ∧ x.2.2.2 = []) ∨ (ty v ≠ 256 ∧ x.1 = (H v).1 ∧ x.2.2.2 = ((kds H v).map phi).reverse ∧ (¬ inn (H v).1 → x.2.1 = (H v).2.1 ∧ x.2.2.1 = (H v).2.2.1))
/-- Rn: the class's nodes that are references, and where they point (by the reference's nodes) -/
def RC (H : Hp) (ty phi : Nat → Nat) (Rn : Nat → Option Nat) (Hc : Hp) : Prop := (∀ v, (H v).1 ≠ 0 → ty v ≠ 11 → CN H ty phi v (Hc (phi v))) ∧ (∀ v w, (H v).1 ≠ 0 → ty v ≠ 11 → (H w).1 ≠ 0 → ty w ≠ 11 → phi v = phi w → v = w) ∧ (∀ w t, Rn w = some t → Hc w = (8, 0, lN (phi t), []) ∧ ∀ v, (H v).1 ≠ 0 → ty v ≠ 11 → phi v ≠ w) ∧ ∀ w, (Hc w).1 ≠ 0 → (∃ v, (H v).1 ≠ 0 ∧ ty v ≠ 11 ∧ phi v = w) ∨ ∃ t, Rn w = some t
theorem HT.tr {E : Ev} (hE : EvOk E) {H : Hp} {m : Nat} {ty : Nat → Nat} (h : HT E H m ty) : ∀ d v, (H v).1 ≠ 0 → E.2.1 (ty v) < d → Tr H d v := by
  intro d
  induction d with
  | zero => intro v _ q; omega
  | succ d ih =>
    intro v hv q
    obtain ⟨a1, a2, a3, a4, a5⟩ := h.2 v hv
    refine ⟨hv, fun hi => ?_, fun c hc => ih c (a3 c hc) ?_⟩
    · have : (kds H v).map ty = [] := by
        rcases a2 with h | h | h | h | h | h | h | h
        · exact h.2.2.2.2
        · exact h.2.2.2.2
        · exact h.2.2.2
        · exact h.2.2
        · exact h.2.2.2
        · exact absurd (.inl h.2.1) hi
        · exact absurd (.inl h.2.2.1) hi
        · exact absurd (.inr h.2.1) hi
      exact List.map_eq_nil_iff.mp this
    · have := a2.mu hE (ty c) (List.mem_map_of_mem hc)
      omega
theorem HT.tr39 {E : Ev} (hE : EvOk E) {H : Hp} {m : Nat} {ty : Nat → Nat} (h : HT E H m ty) {v : Nat} (hv : (H v).1 ≠ 0) : Tr H 39 v := h.tr hE 39 v hv (by have := (h.2 v hv).2.2.2.2; omega)
/-- what a type says of the kind and of the parts -/
theorem LTm.kd {E : Ev} {t : Nat} {x : Nd} {ts : List Nat} (h : LTm E t x ts) : x.1 ≠ 0 ∧ x.1 < 8 ∧ ts.length ≤ 256 ∧ (t ≠ 256 → (inn x.1 ↔ 256 ≤ t) ∧ ∀ c, c ∈ ts → c ≠ 11 ∨ ∃ i, E.1 i = ts ∨ 2 ^ 32 + 11 = t) := by
  rcases h with h | h | h | h | h | h | h | h
  · refine ⟨by omega, by omega, by simp [h.2.2.2.2], fun _ => ⟨⟨fun q => ?_, fun q => by omega⟩, fun c hc => ?_⟩⟩
    · rcases q with q | q <;> omega
    · rw [h.2.2.2.2] at hc; exact absurd hc (by simp)
  · refine ⟨by omega, by omega, by simp [h.2.2.2.2], fun _ => ⟨⟨fun q => ?_, fun q => by omega⟩, fun c hc => ?_⟩⟩
    · rcases q with q | q <;> omega
    · rw [h.2.2.2.2] at hc; exact absurd hc (by simp)
  · obtain ⟨h1, h2, h3, h4⟩ := h
    refine ⟨by omega, by omega, by simp [h4], fun _ => ⟨⟨fun q => ?_, fun q => by omega⟩, fun c hc => ?_⟩⟩
    · rcases q with q | q <;> omega
    · rw [h4] at hc; exact absurd hc (by simp)
  · obtain ⟨h1, h2, h4⟩ := h
    refine ⟨by omega, by omega, by simp [h4], fun _ => ⟨⟨fun q => ?_, fun q => by omega⟩, fun c hc => ?_⟩⟩
    · rcases q with q | q <;> omega
    · rw [h4] at hc; exact absurd hc (by simp)
  · obtain ⟨h1, h2, h3, h4⟩ := h
    refine ⟨by omega, by omega, by simp [h4], fun _ => ⟨⟨fun q => ?_, fun q => by omega⟩, fun c hc => ?_⟩⟩
    · rcases q with q | q <;> omega
    · rw [h4] at hc; exact absurd hc (by simp)
  · obtain ⟨h1, h2, h3, h4, h5⟩ := h
    exact ⟨by omega, by omega, by simp [h5], fun q => absurd h1 q⟩
  · obtain ⟨h1, h2, h3, h4, h5, h6, h7⟩ := h
    exact ⟨by omega, by omega, h7, fun _ => ⟨⟨fun _ => by omega, fun _ => .inl h3⟩, fun c _ => .inr ⟨t - 256, .inl h6.symm⟩⟩⟩
  · obtain ⟨h1, h2, h3, h4, h5, h6⟩ := h
    refine ⟨by omega, by omega, h6, fun _ => ⟨⟨fun _ => by omega, fun _ => .inr h2⟩, fun c hc => ?_⟩⟩
    by_cases q : c = 11
    · right
      exact ⟨0, .inr (by have := h5 c hc; omega)⟩
    · exact .inl q
/-- kind, high and low by type -/
theorem LTm.kt {E : Ev} {t : Nat} {x : Nd} {ts : List Nat} (h : LTm E t x ts) : x.1 = (if t = 11 then 3 else if t < 6 then t else if t < 2 ^ 32 then 6 else 7) ∧ (inn x.1 → x.2.1 = 0 ∧ x.2.2.1 = if t < 2 ^ 32 then lN (t - 256) else 0) := by
  rcases h with h | h | h | h | h | h | h | h
  · obtain ⟨h1, h2, _⟩ := h
    refine ⟨by rw [h2, h1]; decide, fun q => ?_⟩
    rcases q with q | q <;> omega
  · obtain ⟨h1, h2, _⟩ := h
    refine ⟨by rw [h2, h1]; decide, fun q => ?_⟩
    rcases q with q | q <;> omega
  · obtain ⟨h1, h2, _⟩ := h
    refine ⟨by rw [h2, if_neg (by omega), if_pos (by omega)], fun q => ?_⟩
    rcases q with q | q <;> omega
  · obtain ⟨h1, h2, _⟩ := h
    refine ⟨by rw [h2, h1]; decide, fun q => ?_⟩
    rcases q with q | q <;> omega
  · obtain ⟨h1, h2, _⟩ := h
    refine ⟨by rw [h2, h1]; decide, fun q => ?_⟩
    rcases q with q | q <;> omega
  · obtain ⟨h1, h2, h3, h4, _⟩ := h
    exact ⟨by rw [h2, h1]; decide, fun _ => ⟨h3, by rw [h4, h1]; rfl⟩⟩
  · obtain ⟨h1, h2, h3, h4, h5, _⟩ := h
    exact ⟨by rw [h3, if_neg (by omega), if_neg (by omega), if_pos h2], fun _ => ⟨h4, by rw [h5, if_pos h2]⟩⟩
  · obtain ⟨h1, h2, h3, h4, _⟩ := h
    exact ⟨by rw [h2, if_neg (by omega), if_neg (by omega), if_neg (by omega)], fun _ => ⟨h3, by rw [h4, if_neg (by omega)]⟩⟩
theorem LTm.ts {E : Ev} {t : Nat} {x : Nd} {ts : List Nat} (h : LTm E t x ts) : (t < 2 ^ 32 ∧ ts = (if t = 256 then [11] else if 256 < t then E.1 (t - 256) else [])) ∨ (2 ^ 32 ≤ t ∧ ∀ c, c ∈ ts → c = t - 2 ^ 32) := by
  rcases h with h | h | h | h | h | h | h | h
  · left; refine ⟨by omega, ?_⟩; rw [if_neg (by omega), if_neg (by omega)]; exact h.2.2.2.2
  · left; refine ⟨by omega, ?_⟩; rw [if_neg (by omega), if_neg (by omega)]; exact h.2.2.2.2
  · left; refine ⟨by omega, ?_⟩; rw [if_neg (by omega), if_neg (by omega)]; exact h.2.2.2
  · left; refine ⟨by omega, ?_⟩; rw [if_neg (by omega), if_neg (by omega)]; exact h.2.2
  · left; refine ⟨by omega, ?_⟩; rw [if_neg (by omega), if_neg (by omega)]; exact h.2.2.2
  · left; refine ⟨by omega, ?_⟩; rw [if_pos h.1]; exact h.2.2.2.2
  · left; refine ⟨h.2.1, ?_⟩; rw [if_neg (by omega), if_pos h.1]; exact h.2.2.2.2.2.1
  · exact .inr ⟨h.1, h.2.2.2.2.1⟩
/-- no field and no element is a coin's amount -/
def EvA (E : Ev) : Prop := ∀ i, 11 ∉ E.1 i
def NoA (ty : Nat → Nat) (H : Hp) : Prop := ∀ v, (H v).1 ≠ 0 → ty v ≠ 2 ^ 32 + 11
theorem LTm.na {E : Ev} (hA : EvA E) {t : Nat} {x : Nd} {ts : List Nat} (h : LTm E t x ts) (h1 : t ≠ 256) (h2 : t ≠ 2 ^ 32 + 11) : ∀ c, c ∈ ts → c ≠ 11 := by
  intro c hc
  rcases (h.kd.2.2.2 h1).2 c hc with q | ⟨i, q | q⟩
  · exact q
  · intro e; subst e; exact hA i (by rw [q]; exact hc)
  · exact absurd q.symm h2
section
variable {E : Ev} {H : Hp} {m : Nat} {ty phi : Nat → Nat} {Rn : Nat → Option Nat} {Hc : Hp}
theorem coin_kid {v : Nat} (ht : HT E H m ty) (hv : (H v).1 ≠ 0) (h : ty v = 256) : ∃ c, kds H v = [c] ∧ ty c = 11 ∧ (H c).1 = 3 ∧ kds H c = [] ∧ (H c).2.1 = 0 ∧ (H v).1 = 6 ∧ (H v).2.1 = 0 ∧ (H v).2.2.1 = 0 := by
  obtain ⟨_, a2, a3, _, _⟩ := ht.2 v hv
  rcases a2 with h' | h' | h' | h' | h' | h' | h' | h'
  · omega
  · omega
  · omega
  · omega
  · omega
  · obtain ⟨_, h6', h7', h8', h5⟩ := h'
    cases hk : kds H v with
    | nil => rw [hk] at h5; exact absurd h5 (by simp)
    | cons c cs =>
      rw [hk] at h5
      simp only [List.map_cons, List.cons.injEq, List.map_eq_nil_iff] at h5
      obtain ⟨h5, h6⟩ := h5
      subst h6
      have hc := a3 c (by rw [hk]; simp)
      refine ⟨c, rfl, h5, ?_⟩
      obtain ⟨_, b2, _, _, _⟩ := ht.2 c hc
      rw [h5] at b2
      rcases b2 with b | b | b | b | b | b | b | b
      · omega
      · omega
      · omega
      · omega
      · exact ⟨b.2.1, List.map_eq_nil_iff.mp b.2.2.2, b.2.2.1, h6', h7', h8'⟩
      · omega
      · omega
      · omega
  · omega
  · omega
theorem RC.tr (hA : EvA E) (hN : NoA ty H) (ht : HT E H m ty) (r : RC H ty phi Rn Hc) : ∀ d v, Tr H d v → ty v ≠ 11 → Tr Hc d (phi v) ∧ szA Hc d (phi v) = szM H d v := by
  intro d
  induction d with
  | zero => intro v t; exact absurd t (by simp [Tr])
  | succ d ih =>
    intro v ⟨t1, t2, t3⟩ h11
    have a2 := (ht.2 v t1).2.1
    rcases r.1 v t1 h11 with ⟨c1, c2, c3, c4, c5⟩ | ⟨c1, c2, c3, c4⟩
    · obtain ⟨c, k1, k2, k3, k4, _⟩ := coin_kid ht t1 c1
      refine ⟨⟨by omega, fun _ => c5, fun x hx => by rw [c5] at hx; exact absurd hx (by simp)⟩, ?_⟩
      unfold szA szM
      rw [if_pos c2, k1]
      have := t3 c (by rw [show (H v).2.2.2 = [c] from k1]; simp)
      cases d with
      | zero => exact absurd this (by simp [Tr])
      | succ d => simp [szM, k4]
    · have kna := a2.na hA c1 (hN v t1)
      have nk : ∀ c, c ∈ kds H v → ty c ≠ 11 := fun c hc => kna (ty c) (List.mem_map_of_mem hc)
      refine ⟨⟨by rw [c2]; exact t1, fun hi => ?_, fun x hx => ?_⟩, ?_⟩
      · rw [c3]
        rw [c2] at hi
        rw [show kds H v = [] from t2 hi]; rfl
      · rw [c3, List.mem_reverse, List.mem_map] at hx
        obtain ⟨c, hc, e⟩ := hx
        rw [← e]
        exact (ih c (t3 c hc) (nk c hc)).1
      · unfold szA szM
        have : (H v).1 ≠ 10 := by have := a2.kd.2.1; omega
        rw [if_neg (by rw [c2]; exact this), c3, List.map_reverse, List.sum_reverse, List.map_map]
        congr 2
        exact List.map_congr_left (fun c hc => (ih c (t3 c hc) (nk c hc)).2)
theorem RC.rt (r : RC H ty phi Rn Hc) {v : Nat} (hv : (H v).1 ≠ 0) (h11 : ty v ≠ 11) (hr : Rt H v) (hk : ∀ w, (H w).1 ≠ 0 → ty w ≠ 256 → ∀ c, c ∈ kds H w → (H c).1 ≠ 0 ∧ ty c ≠ 11) : rootH Hc (phi v) := by
  intro w hw hc
  rcases r.2.2.2 w hw with ⟨x, x1, x2, x3⟩ | ⟨t, x1⟩
  · rw [← x3] at hc
    rcases r.1 x x1 x2 with ⟨_, _, _, _, c5⟩ | ⟨c1, _, c3, _⟩
    · rw [c5] at hc; exact absurd hc (by simp)
    · rw [c3, List.mem_reverse, List.mem_map] at hc
      obtain ⟨c, hc, e⟩ := hc
      obtain ⟨q1, q2⟩ := hk x x1 c1 c hc
      have := r.2.1 c v q1 q2 hv h11 e
      subst this
      exact hr x hc
  · rw [(r.2.2.1 w t x1).1] at hc; exact absurd hc (by simp)
/-- trees of one type: the class finds them alike when the reference does -/
theorem alZ_len {g : Nat → Nat → Bool} : ∀ {cs ds : List Nat}, cs.length ≠ ds.length → alZ g cs ds = false
  | [], [], h => absurd rfl h
  | [], _ :: _, _ => rfl
  | _ :: _, [], _ => rfl
  | c :: cs, d :: ds, h => by
    unfold alZ
    rw [alZ_len (fun e => h (by simp [e])), Bool.and_false]
theorem alZ_zip {g : Nat → Nat → Bool} : ∀ {cs ds : List Nat}, cs.length = ds.length → alZ g cs ds = (cs.zip ds).all (fun p => g p.1 p.2)
  | [], [], _ => rfl
  | [], _ :: _, h => absurd h (by simp)
  | _ :: _, [], h => absurd h (by simp)
  | c :: cs, d :: ds, h => by
    unfold alZ
    rw [alZ_zip (by simpa using h), List.zip_cons_cons, List.all_cons]
theorem zip_map2 {f : Nat → Nat} : ∀ (cs ds : List Nat), (cs.map f).zip (ds.map f) = (cs.zip ds).map (fun p => (f p.1, f p.2))
  | [], _ => by simp
  | _ :: _, [] => by simp
  | c :: cs, d :: ds => by simp [zip_map2 cs ds]
theorem zip_rev {α β : Type} : ∀ {as : List α} {bs : List β}, as.length = bs.length → as.reverse.zip bs.reverse = (as.zip bs).reverse
  | [], [], _ => rfl
  | [], _ :: _, h => absurd h (by simp)
  | _ :: _, [], h => absurd h (by simp)
  | a :: as, b :: bs, h => by
    have h' : as.length = bs.length := by simpa using h
    rw [List.reverse_cons, List.reverse_cons, zip_len (by simp [h']), List.zip_cons_cons, List.reverse_cons, zip_rev h']
theorem RC.alike (hA : EvA E) (hN : NoA ty H) (ht : HT E H m ty) (r : RC H ty phi Rn Hc) : ∀ d a b, Tr H d a → Tr H d b → ty a = ty b → ty a ≠ 11 → alA Hc d (phi a) (phi b) = alM H d a b := by
  intro d
  induction d with
  | zero => intro a b t; exact absurd t (by simp [Tr])
  | succ d ih =>
    intro a b ⟨t1, t2, t3⟩ ⟨u1, u2, u3⟩ hty h11
    have a2 := (ht.2 a t1).2.1
    have b2 := (ht.2 b u1).2.1
    have ra := r.1 a t1 h11
    have rb := r.1 b u1 (by rw [← hty]; exact h11)
    by_cases h256 : ty a = 256
    · rcases ra with ⟨_, p1, p2, ⟨x, p3, p4⟩, p5⟩ | ⟨q, _⟩
      · rcases rb with ⟨_, s1, s2, ⟨y, s3, s4⟩, s5⟩ | ⟨q, _⟩
        · obtain ⟨x', k1, k2, k3, k4, k5, k6, k7, k8⟩ := coin_kid ht t1 h256
          obtain ⟨y', l1, l2, l3, l4, l5, l6, l7, l8⟩ := coin_kid ht u1 (by rw [← hty]; exact h256)
          have ex : x = x' := by rw [k1] at p3; simpa using p3.symm
          have ey : y = y' := by rw [l1] at s3; simpa using s3.symm
          subst ex ey
          have tx := t3 x (by rw [show (H a).2.2.2 = [x] from k1]; simp)
          unfold alA alM
          rw [p1, s1, p2, s2, p4, s4, k1, l1, k6, k7, k8, l6, l7, l8]
          cases d with
          | zero => exact absurd tx (by simp [Tr])
          | succ d => simp [inn, alZ, alM, k3, l3, k4, l4, k5, l5]
        · exact absurd (hty ▸ h256) q
      · exact absurd h256 q
    · rcases ra with ⟨q, _⟩ | ⟨_, p1, p2, p3⟩
      · exact absurd q h256
      · rcases rb with ⟨q, _⟩ | ⟨_, s1, s2, s3⟩
        · exact absurd (hty.trans q) h256
        · have ka := a2.kt
          have kb := b2.kt
          rw [← hty] at kb
          have ek : (H a).1 = (H b).1 := by rw [ka.1, kb.1]
          unfold alA alM
          rw [p1, s1, if_pos ek, if_pos ek]
          by_cases hi : inn (H a).1
          · have hi' : inn (H b).1 := ek ▸ hi
            rw [if_pos hi, (ka.2 hi).1, (ka.2 hi).2, (kb.2 hi').1, (kb.2 hi').2, if_pos rfl, if_pos rfl, p2, s2, List.length_reverse, List.length_reverse, List.length_map, List.length_map]
            by_cases hl : (kds H a).length = (kds H b).length
            · rw [if_pos hl, alZ_zip hl, zip_rev (by simp [hl]), List.all_reverse, zip_map2, List.all_map]
              have na := a2.na hA h256 (hN a t1)
              apply Bool.eq_iff_iff.mpr
              rw [List.all_eq_true, List.all_eq_true]
              have key : ∀ q, q ∈ (kds H a).zip (kds H b) → alA Hc d (phi q.1) (phi q.2) = alM H d q.1 q.2 := by
                intro q hq
                have m1 := (List.of_mem_zip (a := q.1) (b := q.2) hq).1
                have m2 := (List.of_mem_zip (a := q.1) (b := q.2) hq).2
                have e : (kds H a).map ty = (kds H b).map ty → ty q.1 = ty q.2 := by
                  intro e
                  obtain ⟨i, hi1, hi2⟩ := List.mem_iff_getElem.mp hq
                  rw [List.getElem_zip] at hi2
                  have i1 : i < (kds H a).length := by rw [List.length_zip] at hi1; omega
                  have i2 : i < (kds H b).length := by rw [List.length_zip] at hi1; omega
                  have e1 : q.1 = (kds H a)[i] := by rw [← hi2]
                  have e2 : q.2 = (kds H b)[i] := by rw [← hi2]
                  rw [e1, e2]
                  have h1 : ((kds H a).map ty)[i]? = ((kds H b).map ty)[i]? := by rw [e]
                  rw [List.getElem?_map, List.getElem?_map, List.getElem?_eq_getElem i1, List.getElem?_eq_getElem i2] at h1
                  simpa using h1
                have et : ty q.1 = ty q.2 := by
                  rcases a2.ts with h | h
                  · rcases b2.ts with h' | h'
                    · exact e (by rw [h.2, h'.2, hty])
                    · exact absurd h.1 (by rw [hty]; omega)
                  · rcases b2.ts with h' | h'
                    · exact absurd h'.1 (by rw [← hty]; omega)
                    · rw [h.2 _ (List.mem_map_of_mem m1), h'.2 _ (List.mem_map_of_mem m2), hty]
                exact ih q.1 q.2 (t3 _ m1) (u3 _ m2) et (na _ (List.mem_map_of_mem m1))
              constructor
              · intro h q hq; have := h q hq; rw [← key q hq]; exact this
              · intro h q hq; have := h q hq; rw [← key q hq] at this; exact this
            · rw [if_neg hl, alZ_len hl]
          · have hi' : ¬ inn (H b).1 := ek ▸ hi
            rw [if_neg hi, (p3 hi).1, (p3 hi).2, (s3 hi').1, (s3 hi').2, show kds H a = [] from t2 hi, show kds H b = [] from u2 hi']
            by_cases c1 : (H a).2.1 = (H b).2.1
            · rw [if_pos c1, if_pos c1]
              by_cases c2 : (H a).2.2.1 = (H b).2.2.1
              · simp [c2, alZ]
              · simp [c2]
            · rw [if_neg c1, if_neg c1]
end
