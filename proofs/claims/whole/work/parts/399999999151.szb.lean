/-! HOW LARGE A TREE CAN BE -/
theorem sT_n11 {id : Nat → Nat} {ns : Nat} {t : Ty} (h : PT ns t) : sT id t ≠ 11 := by
  match t, h with
  | [k], h => obtain ⟨h1, h2⟩ := h; show k ≠ 11; omega
  | a :: b :: t, h =>
    rcases h with h | h
    · simp only [sT, h.1, if_true]; omega
    · simp only [sT, h.1]
      rw [if_neg (by decide), if_pos trivial]
      omega
def dsL (H : Hp) : Nat → Nat → List Nat
  | 0, _ => []
  | d + 1, v => v :: ((kds H v).map (dsL H d)).flatten
theorem dsL_len (H : Hp) : ∀ d v, (dsL H d v).length = szM H d v := by
  intro d
  induction d with
  | zero => intro v; rfl
  | succ d ih =>
    intro v
    show ((kds H v).map (dsL H d)).flatten.length + 1 = 1 + ((kds H v).map (szM H d)).sum
    rw [List.length_flatten, List.map_map, Nat.add_comm]
    congr 2
    exact List.map_congr_left (fun c _ => ih c)
theorem dsL_sub (H : Hp) : ∀ d v x, x ∈ dsL H d v → Sub H v x := by
  intro d
  induction d with
  | zero => intro v x h; exact absurd h (by simp [dsL])
  | succ d ih =>
    intro v x h
    have h' : x = v ∨ x ∈ ((kds H v).map (dsL H d)).flatten := List.mem_cons.mp h
    rcases h' with e | h'
    · rw [e]; exact Sub.refl H v
    · obtain ⟨l, hl, hx⟩ := List.mem_flatten.mp h'
      obtain ⟨c, hc, e⟩ := List.mem_map.mp hl
      subst e
      exact Sub.kid hc (ih c x hx)
theorem nd_flat {f : Nat → List Nat} : ∀ {cs : List Nat}, cs.Nodup → (∀ c, c ∈ cs → (f c).Nodup) → (∀ c c' x, c ∈ cs → c' ∈ cs → x ∈ f c → x ∈ f c' → c = c') → ((cs.map f).flatten).Nodup
  | [], _, _, _ => by simp
  | c :: cs, nd, h1, h2 => by
    rw [List.map_cons, List.flatten_cons, List.nodup_append]
    rw [List.nodup_cons] at nd
    refine ⟨h1 c (by simp), nd_flat nd.2 (fun c' hc => h1 c' (by simp [hc])) (fun a b x ha hb => h2 a b x (by simp [ha]) (by simp [hb])), fun a ha b hb e => ?_⟩
    subst e
    obtain ⟨l, hl, hx⟩ := List.mem_flatten.mp hb
    obtain ⟨c', hc, e⟩ := List.mem_map.mp hl
    subst e
    have := h2 c c' a (by simp) (by simp [hc]) ha hx
    subst this
    exact nd.1 hc
theorem dsL_nd {H : Hp} (f : Fo H) (nk : ∀ v, (kds H v).Nodup) : ∀ d v, (dsL H d v).Nodup := by
  intro d
  induction d with
  | zero => intro v; simp [dsL]
  | succ d ih =>
    intro v
    show (v :: ((kds H v).map (dsL H d)).flatten).Nodup
    rw [List.nodup_cons]
    have up : ∀ c, c ∈ kds H v → ¬ Sub H c v := fun c hc hs => by
      obtain ⟨mu, hm⟩ := f.2
      obtain ⟨k, hk⟩ := hs
      have := SubN.mu hm hk
      have l := hm v c hc
      rcases this with e | e
      · subst e; omega
      · omega
    refine ⟨fun h => ?_, nd_flat (nk v) (fun c _ => ih c) (fun c c' x hc hc' hx hx' => ?_)⟩
    · obtain ⟨l, hl, hx⟩ := List.mem_flatten.mp h
      obtain ⟨c, hc, e⟩ := List.mem_map.mp hl
      subst e
      exact up c hc (dsL_sub H d c v hx)
    · rcases Sub.cmp f (dsL_sub H d c x hx) (dsL_sub H d c' x hx') with q | q
      · rcases q.last with e | ⟨y, y1, y2⟩
        · exact e
        · have := f.1 y v c' y2 hc'
          subst this
          exact absurd y1 (up c hc)
      · rcases q.last with e | ⟨y, y1, y2⟩
        · exact e.symm
        · have := f.1 y v c y2 hc
          subst this
          exact absurd y1 (up c' hc')
theorem nd_lt : ∀ (m : Nat) (l : List Nat), l.Nodup → (∀ x, x ∈ l → x < m) → l.length ≤ m := by
  intro m
  induction m with
  | zero =>
    intro l _ h
    cases l with
    | nil => simp
    | cons a l => exact absurd (h a (by simp)) (by omega)
  | succ m ih =>
    intro l nd h
    have e := ih (l.erase m) (nd.erase m) (fun x hx => by
      have h1 := h x (List.mem_of_mem_erase hx)
      have : x ≠ m := fun q => by subst q; exact (List.Nodup.not_mem_erase nd) hx
      omega)
    have := List.length_erase (a := m) (l := l)
    by_cases c : m ∈ l
    · rw [if_pos c] at this; omega
    · rw [if_neg c] at this; omega
theorem Sub.alive {E : Ev} {H : Hp} {m : Nat} {ty : Nat → Nat} (ht : HT E H m ty) {v x : Nat} (hv : (H v).1 ≠ 0) (h : Sub H v x) : (H x).1 ≠ 0 := by
  rcases h.last with e | ⟨y, _, y2⟩
  · rw [← e]; exact hv
  · exact (ht.al y2).2
/-- a tree has no more nodes than there are -/
theorem szM_le {E : Ev} (hE : EvOk E) {H : Hp} {m : Nat} {ty : Nat → Nat} (ht : HT E H m ty) (pu : PU H) {v d : Nat} (hv : (H v).1 ≠ 0) : szM H d v ≤ m := by
  rw [← dsL_len]
  refine nd_lt m _ (dsL_nd (ht.fo hE pu) (fun w => ?_) d v) (fun x hx => (ht.2 x ((dsL_sub H d v x hx).alive ht hv)).1)
  by_cases c : (H w).1 = 0
  · unfold kds; rw [ht.1 w c]; simp
  · exact (ht.2 w c).2.2.2.1
