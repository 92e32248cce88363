/-! A STATE OF CELLS BY NUMBER: numbers, longs, links by (cell, place); the cells' shapes beside it. One world for all methods, its rows of constant size. -/
abbrev St : Type := (Nat → Nat → Int32) × (Nat → Nat → Int64) × (Nat → Nat → Option Nat)
/-- what a class's fields are: 0 a number, 1 a long, 2 a link -/
def tgs : List (List Nat) := [[2, 2, 0, 1], [2, 2, 2, 2, 0, 0, 0], [2, 2, 2, 2, 2, 2, 2, 0, 2, 2, 2], [0, 0, 2, 0, 0, 2, 2, 2, 0, 2, 2, 1, 1, 1, 1, 0, 0, 2, 2, 2, 2, 2], [2, 2, 2, 2, 2, 2, 2, 2, 2, 2, 2, 2, 0, 2, 0, 0, 0, 1], [2, 0, 0, 2, 0, 2, 0, 2, 0, 0, 2, 0, 0, 0, 0], [0, 0, 2, 0, 0, 0, 0, 0, 2], [2, 2, 2, 0, 2, 0, 2, 2, 2, 2, 0, 2, 2, 2, 1, 1], [0, 1, 1, 0, 0, 0, 2, 0, 2, 2, 2, 0, 1, 0, 0, 0, 2, 2, 2], [2, 0, 2, 2, 2, 2, 2, 0, 2, 2, 2, 2, 0], [1, 1, 0, 1, 1], [2, 0, 0, 2, 0, 0, 2, 2, 2, 2, 2, 2, 0], [2, 0, 2, 2], [2, 0, 0, 2, 0, 0, 2, 2, 2, 2, 2, 2, 2, 2, 0, 2, 2, 2, 0, 1, 1, 0], [2, 2, 2, 2, 2, 0, 2, 2, 2, 0, 2], [2, 2, 2, 2, 2, 0], [2, 0, 0, 0, 0, 0, 0, 0, 0, 0, 0, 2, 2, 2, 2, 2, 2, 2], [2, 2, 2, 1, 1], [2, 2, 2, 0, 2, 0, 2, 2, 2, 0, 2, 2, 2, 2, 0, 2, 2, 2, 2, 2, 1, 1, 0, 0, 1, 0, 0, 0, 1, 0, 2, 2, 2, 2, 2, 2, 0, 2, 2, 2, 2, 2, 2, 2, 2, 0, 0, 0, 2, 2, 0, 0, 0, 0, 2, 2, 2, 2, 2, 2, 2, 2, 2, 2, 2, 2, 2, 2, 2, 2, 2, 2, 2, 2, 2, 0, 2, 2]]
def fv (a : Nat → Nat) (z : St) (k : Nat) (t j : Nat) : Value := match t with
  | 0 => .int (z.1 k j)
  | 1 => .long (z.2.1 k j)
  | _ => va_rf ((z.2.2 k j).map a)
def fl (a : Nat → Nat) (z : St) (ci k : Nat) : List Value := (tgs.getD ci []).mapIdx (fun j t => fv a z k t j)
/-- a cell: shape (c, n): an object of class c, or (100 + t, n) a row of n of sort t -/
def cE (cy : Nat → ClassId) (a : Nat → Nat) (sh : Nat → Nat × Nat) (z : St) (k : Nat) : va_E :=
  if (sh k).1 < 100 then .inr ((sh k).1, fl a z (sh k).1 k)
  else .inl (cy ((sh k).1 - 100), (sh k).2, if (sh k).1 = 102 then .inr (.inl (z.2.1 k)) else if (sh k).1 < 104 then .inl (z.1 k) else .inr (.inr (.inr (.inr (fun j => (z.2.2 k j).map a)))))
def Wd (cy : Nat → ClassId) (a : Nat → Nat) (sh : Nat → Nat × Nat) (n : Nat) (z : St) : va_W := (List.range n).map (fun k => (a k, cE cy a sh z k))
theorem Wd_at {cy : Nat → ClassId} {a : Nat → Nat} {sh : Nat → Nat × Nat} {n : Nat} {z : St} {k : Nat} (hk : k < n) : (Wd cy a sh n z)[k]? = some (a k, cE cy a sh z k) := by
  unfold Wd
  rw [List.getElem?_map, List.getElem?_range hk]
  rfl
theorem Wd_set {cy : Nat → ClassId} {a : Nat → Nat} {sh : Nat → Nat × Nat} {n : Nat} {z z' : St} {k : Nat} {e : va_E} (he : cE cy a sh z' k = e) (ho : ∀ j, j ≠ k → cE cy a sh z' j = cE cy a sh z j) : (Wd cy a sh n z).set k (a k, e) = Wd cy a sh n z' := by
  apply List.ext_getElem?
  intro i
  rw [List.getElem?_set]
  by_cases hi : i < n
  · by_cases h : k = i
    · subst h
      rw [if_pos rfl, if_pos (by unfold Wd; rw [List.length_map, List.length_range]; exact hi), Wd_at hi, he]
    · rw [if_neg h, Wd_at hi, Wd_at hi, ho i (fun e => h e.symm)]
  · have h1 : (Wd cy a sh n z)[i]? = none := List.getElem?_eq_none (by unfold Wd; rw [List.length_map, List.length_range]; exact Nat.not_lt.mp hi)
    have h2 : (Wd cy a sh n z')[i]? = none := List.getElem?_eq_none (by unfold Wd; rw [List.length_map, List.length_range]; exact Nat.not_lt.mp hi)
    rw [h1, h2]
    split
    · split
      · rename_i h3
        exact absurd h3 (by unfold Wd; rw [List.length_map, List.length_range]; omega)
      · rfl
    · rfl
def si (z : St) (k j : Nat) (v : Int32) : St := (fun k' j' => if k' = k then (if j' = j then v else z.1 k j') else z.1 k' j', z.2.1, z.2.2)
def sl (z : St) (k j : Nat) (v : Int64) : St := (z.1, fun k' j' => if k' = k then (if j' = j then v else z.2.1 k j') else z.2.1 k' j', z.2.2)
def sq (z : St) (k j : Nat) (v : Option Nat) : St := (z.1, z.2.1, fun k' j' => if k' = k then (if j' = j then v else z.2.2 k j') else z.2.2 k' j')
theorem Wd_ob {cy : Nat → ClassId} {a : Nat → Nat} {sh : Nat → Nat × Nat} {n : Nat} {z : St} {k ci w : Nat} (hk : k < n) (hs : sh k = (ci, w)) (hc : ci < 100) : (Wd cy a sh n z)[k]? = some (a k, .inr (ci, fl a z ci k)) := by
  rw [Wd_at hk]
  unfold cE
  rw [hs, if_pos hc]
theorem fl_at {a : Nat → Nat} {z : St} {ci k j t : Nat} (h : (tgs.getD ci [])[j]? = some t) : (fl a z ci k)[j]? = some (fv a z k t j) := by
  unfold fl
  rw [List.getElem?_mapIdx, h]
  rfl
theorem fl_set {a : Nat → Nat} {z z' : St} {ci k j t : Nat} {v : Value} (h : (tgs.getD ci [])[j]? = some t) (hv : fv a z' k t j = v) (ho : ∀ i u, i ≠ j → fv a z' k u i = fv a z k u i) : fl a z' ci k = (fl a z ci k).set j v := by
  apply List.ext_getElem?
  intro i
  rw [List.getElem?_set]
  unfold fl
  rw [List.getElem?_mapIdx, List.getElem?_mapIdx, List.length_mapIdx]
  have hj : j < (tgs.getD ci []).length := (List.getElem?_eq_some_iff.mp h).1
  by_cases hi : j = i
  · subst hi
    rw [if_pos rfl, if_pos hj, h]
    exact congrArg some hv
  · rw [if_neg hi]
    cases hq : (tgs.getD ci [])[i]? with
    | none => rfl
    | some u => exact congrArg some (ho i u (fun e => hi e.symm))
theorem Wd_si {cy : Nat → ClassId} {a : Nat → Nat} {sh : Nat → Nat × Nat} {n : Nat} {z : St} {k ci w j : Nat} {v : Int32} (hs : sh k = (ci, w)) (hc : ci < 100) (h : (tgs.getD ci [])[j]? = some 0) : (Wd cy a sh n z).set k (a k, .inr (ci, (fl a z ci k).set j (.int v))) = Wd cy a sh n (si z k j v) := by
  apply Wd_set
  · unfold cE
    rw [hs, if_pos hc]
    rw [fl_set (z := z) (z' := si z k j v) (v := .int v) h]
    · show Value.int (if k = k then (if j = j then v else _) else _) = _
      rw [if_pos rfl, if_pos rfl]
    · intro i u hi
      have e1 : (si z k j v).1 k i = z.1 k i := by simp [si, hi]
      have e2 : (si z k j v).2.1 k i = z.2.1 k i := by simp [si, hi]
      have e3 : (si z k j v).2.2 k i = z.2.2 k i := by simp [si, hi]
      unfold fv
      rw [e1, e2, e3]
  · intro i hi
    have e1 : (si z k j v).1 i = z.1 i := by funext x; simp [si, hi]
    have e2 : (si z k j v).2.1 i = z.2.1 i := by funext x; simp [si, hi]
    have e3 : (si z k j v).2.2 i = z.2.2 i := by funext x; simp [si, hi]
    unfold cE fl fv
    rw [e1, e2, e3]
theorem Wd_sl {cy : Nat → ClassId} {a : Nat → Nat} {sh : Nat → Nat × Nat} {n : Nat} {z : St} {k ci w j : Nat} {v : Int64} (hs : sh k = (ci, w)) (hc : ci < 100) (h : (tgs.getD ci [])[j]? = some 1) : (Wd cy a sh n z).set k (a k, .inr (ci, (fl a z ci k).set j (.long v))) = Wd cy a sh n (sl z k j v) := by
  apply Wd_set
  · unfold cE
    rw [hs, if_pos hc]
    rw [fl_set (z := z) (z' := sl z k j v) (v := .long v) h]
    · show Value.long (if k = k then (if j = j then v else _) else _) = _
      rw [if_pos rfl, if_pos rfl]
    · intro i u hi
      have e1 : (sl z k j v).1 k i = z.1 k i := by simp [sl, hi]
      have e2 : (sl z k j v).2.1 k i = z.2.1 k i := by simp [sl, hi]
      have e3 : (sl z k j v).2.2 k i = z.2.2 k i := by simp [sl, hi]
      unfold fv
      rw [e1, e2, e3]
  · intro i hi
    have e1 : (sl z k j v).1 i = z.1 i := by funext x; simp [sl, hi]
    have e2 : (sl z k j v).2.1 i = z.2.1 i := by funext x; simp [sl, hi]
    have e3 : (sl z k j v).2.2 i = z.2.2 i := by funext x; simp [sl, hi]
    unfold cE fl fv
    rw [e1, e2, e3]
theorem Wd_sq {cy : Nat → ClassId} {a : Nat → Nat} {sh : Nat → Nat × Nat} {n : Nat} {z : St} {k ci w j : Nat} {v : Option Nat} (hs : sh k = (ci, w)) (hc : ci < 100) (h : (tgs.getD ci [])[j]? = some 2) : (Wd cy a sh n z).set k (a k, .inr (ci, (fl a z ci k).set j (va_rf (v.map a)))) = Wd cy a sh n (sq z k j v) := by
  apply Wd_set
  · unfold cE
    rw [hs, if_pos hc]
    rw [fl_set (z := z) (z' := sq z k j v) (v := va_rf (v.map a)) h]
    · show va_rf ((if k = k then (if j = j then v else _) else _ : Option Nat).map a) = _
      rw [if_pos rfl, if_pos rfl]
    · intro i u hi
      have e1 : (sq z k j v).1 k i = z.1 k i := by simp [sq, hi]
      have e2 : (sq z k j v).2.1 k i = z.2.1 k i := by simp [sq, hi]
      have e3 : (sq z k j v).2.2 k i = z.2.2 k i := by simp [sq, hi]
      unfold fv
      rw [e1, e2, e3]
  · intro i hi
    have e1 : (sq z k j v).1 i = z.1 i := by funext x; simp [sq, hi]
    have e2 : (sq z k j v).2.1 i = z.2.1 i := by funext x; simp [sq, hi]
    have e3 : (sq z k j v).2.2 i = z.2.2 i := by funext x; simp [sq, hi]
    unfold cE fl fv
    rw [e1, e2, e3]
theorem Wd_ai {cy : Nat → ClassId} {a : Nat → Nat} {sh : Nat → Nat × Nat} {n : Nat} {z : St} {k w : Nat} (hk : k < n) (hs : sh k = (101, w)) : (Wd cy a sh n z)[k]? = some (a k, .inl (cy 1, w, .inl (z.1 k))) := by
  rw [Wd_at hk]
  unfold cE
  rw [hs]
  rfl
theorem Wd_ti {cy : Nat → ClassId} {a : Nat → Nat} {sh : Nat → Nat × Nat} {n : Nat} {z : St} {k w j : Nat} {v : Int32} (hs : sh k = (101, w)) : (Wd cy a sh n z).set k (a k, .inl (cy 1, w, .inl (upd (z.1 k) j v))) = Wd cy a sh n (si z k j v) := by
  apply Wd_set
  · have e : (si z k j v).1 k = upd (z.1 k) j v := by funext i; simp [si, upd]
    unfold cE
    rw [hs, e]
    rfl
  · intro i hi
    have e1 : (si z k j v).1 i = z.1 i := by funext x; simp [si, hi]
    have e2 : (si z k j v).2.1 i = z.2.1 i := by funext x; simp [si, hi]
    have e3 : (si z k j v).2.2 i = z.2.2 i := by funext x; simp [si, hi]
    unfold cE fl fv
    rw [e1, e2, e3]
theorem Wd_ab {cy : Nat → ClassId} {a : Nat → Nat} {sh : Nat → Nat × Nat} {n : Nat} {z : St} {k w : Nat} (hk : k < n) (hs : sh k = (100, w)) : (Wd cy a sh n z)[k]? = some (a k, .inl (cy 0, w, .inl (z.1 k))) := by
  rw [Wd_at hk]
  unfold cE
  rw [hs]
  rfl
theorem Wd_tb {cy : Nat → ClassId} {a : Nat → Nat} {sh : Nat → Nat × Nat} {n : Nat} {z : St} {k w j : Nat} {v : Int32} (hs : sh k = (100, w)) : (Wd cy a sh n z).set k (a k, .inl (cy 0, w, .inl (upd (z.1 k) j v))) = Wd cy a sh n (si z k j v) := by
  apply Wd_set
  · have e : (si z k j v).1 k = upd (z.1 k) j v := by funext i; simp [si, upd]
    unfold cE
    rw [hs, e]
    rfl
  · intro i hi
    have e1 : (si z k j v).1 i = z.1 i := by funext x; simp [si, hi]
    have e2 : (si z k j v).2.1 i = z.2.1 i := by funext x; simp [si, hi]
    have e3 : (si z k j v).2.2 i = z.2.2 i := by funext x; simp [si, hi]
    unfold cE fl fv
    rw [e1, e2, e3]
theorem Wd_az {cy : Nat → ClassId} {a : Nat → Nat} {sh : Nat → Nat × Nat} {n : Nat} {z : St} {k w : Nat} (hk : k < n) (hs : sh k = (103, w)) : (Wd cy a sh n z)[k]? = some (a k, .inl (cy 3, w, .inl (z.1 k))) := by
  rw [Wd_at hk]
  unfold cE
  rw [hs]
  rfl
theorem Wd_tz {cy : Nat → ClassId} {a : Nat → Nat} {sh : Nat → Nat × Nat} {n : Nat} {z : St} {k w j : Nat} {v : Int32} (hs : sh k = (103, w)) : (Wd cy a sh n z).set k (a k, .inl (cy 3, w, .inl (upd (z.1 k) j v))) = Wd cy a sh n (si z k j v) := by
  apply Wd_set
  · have e : (si z k j v).1 k = upd (z.1 k) j v := by funext i; simp [si, upd]
    unfold cE
    rw [hs, e]
    rfl
  · intro i hi
    have e1 : (si z k j v).1 i = z.1 i := by funext x; simp [si, hi]
    have e2 : (si z k j v).2.1 i = z.2.1 i := by funext x; simp [si, hi]
    have e3 : (si z k j v).2.2 i = z.2.2 i := by funext x; simp [si, hi]
    unfold cE fl fv
    rw [e1, e2, e3]
theorem Wd_al {cy : Nat → ClassId} {a : Nat → Nat} {sh : Nat → Nat × Nat} {n : Nat} {z : St} {k w : Nat} (hk : k < n) (hs : sh k = (102, w)) : (Wd cy a sh n z)[k]? = some (a k, .inl (cy 2, w, .inr (.inl (z.2.1 k)))) := by
  rw [Wd_at hk]
  unfold cE
  rw [hs]
  rfl
theorem Wd_tl {cy : Nat → ClassId} {a : Nat → Nat} {sh : Nat → Nat × Nat} {n : Nat} {z : St} {k w j : Nat} {v : Int64} (hs : sh k = (102, w)) : (Wd cy a sh n z).set k (a k, .inl (cy 2, w, .inr (.inl (vp_updL (z.2.1 k) j v)))) = Wd cy a sh n (sl z k j v) := by
  apply Wd_set
  · have e : (sl z k j v).2.1 k = vp_updL (z.2.1 k) j v := by funext i; simp [sl, vp_updL]
    unfold cE
    rw [hs, e]
    rfl
  · intro i hi
    have e1 : (sl z k j v).1 i = z.1 i := by funext x; simp [sl, hi]
    have e2 : (sl z k j v).2.1 i = z.2.1 i := by funext x; simp [sl, hi]
    have e3 : (sl z k j v).2.2 i = z.2.2 i := by funext x; simp [sl, hi]
    unfold cE fl fv
    rw [e1, e2, e3]
theorem Wd_aq {cy : Nat → ClassId} {a : Nat → Nat} {sh : Nat → Nat × Nat} {n : Nat} {z : St} {k w t : Nat} (hk : k < n) (hs : sh k = (100 + t, w)) (ht : 4 ≤ t) : (Wd cy a sh n z)[k]? = some (a k, .inl (cy t, w, .inr (.inr (.inr (.inr (fun j => (z.2.2 k j).map a)))))) := by
  rw [Wd_at hk]
  unfold cE
  rw [hs, if_neg (by omega), if_neg (by omega), if_neg (by omega), Nat.add_sub_cancel_left]
