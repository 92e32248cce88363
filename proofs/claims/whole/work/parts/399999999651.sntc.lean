/-! COINS: settling makes none -/
def smG {α : Type} (f : α → Nat) : List α → Nat
  | [] => 0
  | v :: l => f v + smG f l
theorem smG_app {α : Type} (f : α → Nat) : ∀ (l m : List α), smG f (l ++ m) = smG f l + smG f m
  | [], m => by simp [smG]
  | v :: l, m => by
    show f v + smG f (l ++ m) = f v + smG f l + smG f m
    rw [smG_app f l m]; omega
theorem smG_le {α : Type} {f g : α → Nat} : ∀ {l : List α}, (∀ v, v ∈ l → f v ≤ g v) → smG f l ≤ smG g l
  | [], _ => Nat.le_refl _
  | v :: l, h => by
    show f v + smG f l ≤ g v + smG g l
    have h1 := h v (by simp)
    have h2 := smG_le (l := l) (fun w hw => h w (by simp [hw]))
    omega
theorem smG_cut {α : Type} (f : α → Nat) (p : α → Bool) : ∀ (l : List α), smG f l = smG f (l.filter p) + smG f (l.filter (fun v => !p v))
  | [] => rfl
  | v :: l => by
    have ih := smG_cut f p l
    by_cases c : p v = true
    · rw [List.filter_cons_of_pos c, List.filter_cons_of_neg (by simp [c])]
      show f v + smG f l = f v + smG f (l.filter p) + smG f (l.filter (fun v => !p v))
      omega
    · rw [List.filter_cons_of_neg c, List.filter_cons_of_pos (by simp [c])]
      show f v + smG f l = smG f (l.filter p) + (f v + smG f (l.filter (fun v => !p v)))
      omega
theorem smG_out {α : Type} [DecidableEq α] (f : α → Nat) {v : α} : ∀ {B : List α}, v ∈ B → smG f B = f v + smG f (B.erase v)
  | [], h => absurd h (by simp)
  | w :: B, h => by
    by_cases c : w = v
    · subst c; rw [List.erase_cons_head]; rfl
    · rw [List.erase_cons_tail (by simpa using c)]
      have hB : v ∈ B := by
        rcases List.mem_cons.mp h with q | q
        · exact absurd q.symm c
        · exact q
      show f w + smG f B = f v + (f w + smG f (B.erase v))
      have := smG_out f hB
      omega
theorem smG_sub {α : Type} [DecidableEq α] (f : α → Nat) : ∀ {l B : List α}, l.Nodup → (∀ v, v ∈ l → v ∈ B) → smG f l ≤ smG f B
  | [], _, _, _ => Nat.zero_le _
  | v :: l, B, nd, h => by
    have hv := smG_out f (h v (by simp))
    obtain ⟨n1, n2⟩ := List.nodup_cons.mp nd
    have := smG_sub f (l := l) (B := B.erase v) n2 (fun w hw => (List.mem_erase_of_ne (fun e => n1 (by rw [← e]; exact hw))).mpr (h w (by simp [hw])))
    show f v + smG f l ≤ smG f B
    omega
theorem smG_rg {α : Type} (f : α → Nat) (g : Nat → α) : ∀ n, smG f ((List.range n).map g) = sN (fun i => f (g i)) n
  | 0 => rfl
  | n + 1 => by
    rw [List.range_succ, List.map_append, smG_app, smG_rg f g n]; rfl
theorem sN_le {f g : Nat → Nat} : ∀ {n : Nat}, (∀ k, k < n → f k ≤ g k) → sN f n ≤ sN g n
  | 0, _ => Nat.le_refl _
  | n + 1, h => by
    show sN f n + f n ≤ sN g n + g n
    have h1 := sN_le (f := f) (g := g) (n := n) (fun k hk => h k (by omega))
    have h2 := h n (by omega)
    omega
theorem sN_add {f g : Nat → Nat} : ∀ {n : Nat}, sN (fun k => f k + g k) n = sN f n + sN g n
  | 0 => rfl
  | n + 1 => by
    show sN (fun k => f k + g k) n + (f n + g n) = (sN f n + f n) + (sN g n + g n)
    rw [sN_add (f := f) (g := g) (n := n)]; omega
/-- lists behind each other -/
def catL (L : Nat → List Nat) : Nat → List Nat
  | 0 => []
  | n + 1 => catL L n ++ L n
theorem catL_m {L : Nat → List Nat} {v : Nat} : ∀ {n : Nat}, v ∈ catL L n → ∃ j, j < n ∧ v ∈ L j
  | 0, h => by cases h
  | n + 1, h => by
    rcases List.mem_append.mp h with q | q
    · obtain ⟨j, h1, h2⟩ := catL_m q
      exact ⟨j, by omega, h2⟩
    · exact ⟨n, by omega, q⟩
theorem catL_nd {L : Nat → List Nat} : ∀ {n : Nat}, (∀ j, j < n → (L j).Nodup) → (∀ i j v, i < n → j < n → v ∈ L i → v ∈ L j → i = j) → (catL L n).Nodup
  | 0, _, _ => List.nodup_nil
  | n + 1, h1, h2 => by
    show (catL L n ++ L n).Nodup
    rw [List.nodup_append]
    refine ⟨catL_nd (fun j hj => h1 j (by omega)) (fun i j v hi hj => h2 i j v (by omega) (by omega)), h1 n (by omega), fun a ha b hb e => ?_⟩
    obtain ⟨j, j1, j2⟩ := catL_m ha
    subst e
    have := h2 j n a (by omega) (by omega) j2 hb
    omega
theorem smL_cat {L : Nat → List Nat} (f : Nat → Nat) : ∀ n, smL f (catL L n) = sN (fun j => smL f (L j)) n
  | 0 => rfl
  | n + 1 => by
    show smL f (catL L n ++ L n) = _
    rw [smL_app, smL_cat f n]; rfl
/-- the coins of places are no more than counted -/
def LdQ (E : Ev) (led : Nat → Int64 → Nat → Nat) (nc : Nat) (ac : Nat → Int64 × Int64 × Int64) (nr : Nat) (rs : Nat → Int64 × Nat × Hp × Nat) : Prop := (∀ i, i < nc → N (ac i).2.1 ≤ led 1 (ac i).1 0) ∧ ∀ i tq, i < nr → TyQ E (rs i).2.2.1 (rs i).2.2.2 tq → tq 0 = 256 + (rs i).2.1 → qS (rs i).2.2.1 tq (rs i).2.2.2 ≤ led 3 (rs i).1 (rs i).2.1
/-- all that is counted is no more than D -/
def LdS (led : Nat → Int64 → Nat → Nat) (D : Nat) : Prop := ∀ l : List (Nat × Int64 × Nat), l.Nodup → smG (fun x => led x.1 x.2.1 x.2.2) l ≤ D
def LdT (E : Ev) (D nc : Nat) (ac : Nat → Int64 × Int64 × Int64) (nr : Nat) (rs : Nat → Int64 × Nat × Hp × Nat) : Prop := ∃ led, LdQ E led nc ac nr rs ∧ LdS led D
theorem LTm.uq {E : Ev} {t : Nat} {x x' : Nd} {ts ts' : List Nat} (h : LTm E t x ts) (h' : LTm E t x' ts') (hl : ts.length = ts'.length) : ts = ts' := by
  rcases h.ts with a | a
  · rcases h'.ts with b | b
    · rw [a.2, b.2]
    · omega
  · rcases h'.ts with b | b
    · omega
    · exact List.ext_getElem hl (fun i h1 h2 => by rw [a.2 _ (List.getElem_mem h1), b.2 _ (List.getElem_mem h2)])
section
variable {E : Ev} {H : Hp} {m : Nat} {ty : Nat → Nat} {fr : Nat → Fm} {na lim D : Nat} {ak : Nat → Ask} {sd : Int64} {nc nr nc' nr1 nr' : Nat} {ac ac' : Nat → Int64 × Int64 × Int64} {rs rs1 rs' : Nat → Int64 × Nat × Hp × Nat} {led : Nat → Int64 → Nat → Nat}
/-- a kept tree: its types are those of the tree, its nodes are nodes of the tree -/
theorem kept (ht : HT E H m ty) (f : Fo H) {v k sz : Nat} {Q : Hp} {o tq : Nat → Nat} (hv : (H v).1 ≠ 0) (hr : Rt H v) (tv : ty v = 256 + k) (o0 : o 0 = v) (pre : Pre Q 48 0 sz) (alk : ∀ i, i < sz → Alk H Q o i) (hq : TyQ E Q sz tq) (t0 : tq 0 = 256 + k) : (∀ i, i < sz → Sub H v (o i) ∧ (H (o i)).1 ≠ 0 ∧ tq i = ty (o i)) ∧ ∀ i j, i < sz → j < sz → o i = o j → i = j := by
  have up : ∀ i, i < sz → Sub H v (o i) ∧ (H (o i)).1 ≠ 0 ∧ tq i = ty (o i) := by
    intro i
    induction i using Nat.strongRecOn with
    | ind i ih =>
      intro hi
      by_cases c : i = 0
      · subst c; rw [o0]; exact ⟨Sub.refl H v, hv, by rw [t0, tv]⟩
      · obtain ⟨j, j1, j2, j3⟩ := Pre.par 48 0 sz pre i (by omega) hi
        obtain ⟨i1, i2, i3⟩ := ih j j2 (by omega)
        have a := (alk j (by omega)).2.2.2
        have hk : o i ∈ kds H (o j) := by rw [← a]; exact List.mem_map_of_mem j3
        refine ⟨i1.trans (Sub.one hk), (ht.al hk).2, ?_⟩
        have l1 := (hq j (by omega)).2.1
        have l2 := (ht.2 (o j) i2).2.1
        rw [← a, List.map_map] at l2
        rw [i3] at l1
        have e := l1.uq l2 (by rw [List.length_map, List.length_map])
        exact List.map_inj_left.mp e i j3
  refine ⟨up, ?_⟩
  intro i
  induction i using Nat.strongRecOn with
  | ind i ih =>
    intro j hi hj e
    by_cases ci : i = 0
    · by_cases cj : j = 0
      · omega
      · obtain ⟨p, p1, p2, p3⟩ := Pre.par 48 0 sz pre j (by omega) hj
        have a := (alk p (by omega)).2.2.2
        have hk : o j ∈ kds H (o p) := by rw [← a]; exact List.mem_map_of_mem p3
        rw [← e, ci, o0] at hk
        exact absurd hk (hr _)
    · obtain ⟨q, q1, q2, q3⟩ := Pre.par 48 0 sz pre i (by omega) hi
      have b := (alk q (by omega)).2.2.2
      have hkq : o i ∈ kds H (o q) := by rw [← b]; exact List.mem_map_of_mem q3
      by_cases cj : j = 0
      · rw [e, cj, o0] at hkq
        exact absurd hkq (hr _)
      · obtain ⟨p, p1, p2, p3⟩ := Pre.par 48 0 sz pre j (by omega) hj
        have a := (alk p (by omega)).2.2.2
        have hkp : o j ∈ kds H (o p) := by rw [← a]; exact List.mem_map_of_mem p3
        rw [← e] at hkp
        have epq := ih q q2 p (by omega) (by omega) (f.1 _ _ _ hkq hkp)
        subst epq
        have nd := (ht.2 (o q) (ht.al hkq).1).2.2.2.1
        rw [← b] at nd
        obtain ⟨x, x1, x2⟩ := List.getElem_of_mem q3
        obtain ⟨y, y1, y2⟩ := List.getElem_of_mem p3
        have hx : ((kds Q q).map o)[x]? = ((kds Q q).map o)[y]? := by rw [List.getElem?_map, List.getElem?_map, List.getElem?_eq_getElem x1, List.getElem?_eq_getElem y1, x2, y2]; show some (o i) = some (o j); rw [e]
        have := (List.getElem?_inj (show x < ((kds Q q).map o).length by rw [List.length_map]; exact x1) nd).mp hx
        subst this
        rw [← x2, ← y2]
/-- settling makes no coins -/
theorem csv (I : MJ E H m ty fr 1 na ak (fun _ => none)) (dst : Dst na ak) (ky : ∀ j, j < na → KyOk (ak j).1 (ak j).2.1 (ak j).2.2.1) (h0 : 0 < na ∧ (ak 0).1 = 1 ∧ (ak 0).2.1 = sd) (rm : RmR ak na 0 nr rs nr1 rs1) (wr : WrR H ak na 0 nr1 rs1 nr' rs') (wa : WrA (akS ak lim) ak na 0 nc ac nc' ac') (pre : ∀ i, i < nr' → Pre (rs' i).2.2.1 48 0 (rs' i).2.2.2) (hlim : lim ≤ 20000) (ex : ∀ i, i < nc → E.2.2.2.2 4 (ac i).1 0 ≠ 0) (hl : LdQ E led nc ac nr rs) (hS : LdS led D) (hE : ∀ s a k, s ≠ 4 → E.2.2.2.2 s a k + (if s = 1 ∧ a = sd ∧ k = 0 then lim else 0) ≤ led s a k) : LdT E D nc' ac' nr' rs' := by
  have dec : ∀ p : Prop, ∃ b : Bool, b = true ↔ p := fun p => by
    by_cases q : p
    · exact ⟨true, fun _ => q, fun _ => rfl⟩
    · exact ⟨false, ⟨fun e => absurd e (by decide), fun e => absurd e q⟩⟩
  have chs := Classical.axiomOfChoice (r := fun (v : Nat × Nat) (b : Bool) => b = true ↔ (ty v.2 = 11 ∧ (ak v.1).1 = 3 ∧ (ak v.1).2.2.2.2.1 = true ∧ Sub H (ak v.1).2.2.2.2.2 v.2)) (fun v => dec _)
  obtain ⟨bb, hbb⟩ := chs
  let L : Nat → List Nat := fun j => (List.range m).filter (fun v => bb (j, v))
  have Lm : ∀ j v, v ∈ L j → ty v = 11 ∧ (ak j).1 = 3 ∧ (ak j).2.2.2.2.1 = true ∧ Sub H (ak j).2.2.2.2.2 v := fun j v hv => (hbb (j, v)).mp (List.mem_filter.mp hv).2
  have rt : ∀ j, j < na → (ak j).1 = 3 → (ak j).2.2.2.2.1 = true → LvA fr 1 na ak (fun _ => none) 2 0 j = some (ak j).2.2.2.2.2 := fun j hj h3 ht => by rw [lv2, if_pos ⟨rfl, hj, h3, ht⟩]
  have nd : (catL L na).Nodup := catL_nd (fun j _ => List.nodup_range.filter _) (fun i j v hi hj h1 h2 => by
    obtain ⟨_, a3, at', as⟩ := Lm i v h1
    obtain ⟨_, b3, bt, bs⟩ := Lm j v h2
    have r1 := rt i hi a3 at'
    have r2 := rt j hj b3 bt
    have e := Sub.roots I.1.1 (I.1.2.1 _ _ _ _ r1) (I.1.2.1 _ _ _ _ r2) as bs
    rw [← e] at r2
    exact (I.1.2.2.1 _ _ _ _ _ _ _ r1 r2).2.2)
  have cp := I.cp.1 (catL L na) nd (fun v hv => by
    obtain ⟨j, hj, q⟩ := catL_m hv
    obtain ⟨a1, a3, at', as⟩ := Lm j v q
    exact ⟨a1, _, _, _, _, rt j hj a3 at', as⟩)
  rw [smL_cat] at cp
  let val : Nat → Nat := fun j => if (ak j).1 = 1 then N (akS ak lim j).2.2.2.1 else smL (am H) (L j)
  let led' : Nat → Int64 → Nat → Nat := fun s a k => match fdK na ak s a k na 0 with
    | some j => val j
    | none => led s a k
  have at_ : ∀ j, j < na → led' (ak j).1 (ak j).2.1 (ak j).2.2.1 = val j := fun j hj => by
    show (match fdK na ak (ak j).1 (ak j).2.1 (ak j).2.2.1 na 0 with | some j => val j | none => led _ _ _) = val j
    cases q : fdK na ak (ak j).1 (ak j).2.1 (ak j).2.2.1 na 0 with
    | none =>
      have := fd_no na 0 q j (by omega) (by omega)
      simp at this
    | some i =>
      have hi := fd_lt na 0 i q
      have pi : (ak i).1 = (ak j).1 ∧ (ak i).2.1 = (ak j).2.1 ∧ (ak i).2.2.1 = (ak j).2.2.1 := by simpa using hi.2.2
      rw [dst i j (by omega) hj pi.1 pi.2.1 pi.2.2]
  have no_ : ∀ s a k, (∀ j, j < na → ¬ ((ak j).1 = s ∧ (ak j).2.1 = a ∧ (ak j).2.2.1 = k)) → led' s a k = led s a k := fun s a k h => by
    show (match fdK na ak s a k na 0 with | some j => val j | none => led s a k) = _
    cases q : fdK na ak s a k na 0 with
    | none => rfl
    | some i =>
      have hi := fd_lt na 0 i q
      exact absurd (by simpa using hi.2.2) (h i (by omega))
  refine ⟨led', ⟨fun i' hi' => ?_, fun i' tq hi' hq t0 => ?_⟩, fun l hn => ?_⟩
  · rcases wa i' hi' with ⟨i, h1, h2, h3⟩ | ⟨j, _, h1, h2, h3, h4, h5⟩
    · rw [h2, no_ 1 (ac i).1 0 (fun j hj q => h3 j (by omega) hj q.1 (I.cp.2 j hj q.1 (by rw [q.2.1]; exact ex i h1)) q.2.1)]
      exact hl.1 i h1
    · have k0 : (ak j).2.2.1 = 0 := by rcases ky j h1 with q | q | q <;> omega
      have e := at_ j h1
      rw [h2, k0] at e
      rw [h4, h5, e]
      show _ ≤ (if (ak j).1 = 1 then _ else _)
      rw [if_pos h2]; exact Nat.le_refl _
  · rcases wr i' hi' with ⟨i1, h1, h2, h3⟩ | ⟨j, o, _, h1, h2, h3, h4, h5, h6, h7, h8⟩
    · obtain ⟨i, g1, g2, g3⟩ := rm i1 h1
      rw [h2, g2] at hq t0 ⊢
      rw [no_ 3 (rs i).1 (rs i).2.1 (fun j hj q => by
        cases w : (ak j).2.2.2.2.1 with
        | true => exact h3 j (by omega) hj q.1 w (by rw [g2]; exact q.2)
        | false => exact g3 j (by omega) hj q.1 w q.2)]
      exact hl.2 i tq g1 hq t0
    · have e := at_ j h1
      rw [h2] at e
      rw [h4, h5, e]
      show _ ≤ (if (ak j).1 = 1 then _ else smL (am H) (L j))
      rw [if_neg (by omega)]
      have r1 := rt j h1 h2 h3
      obtain ⟨v1, v2⟩ := I.2.2.2.2.1 j h1 h2 h3
      have pr := pre i' hi'
      rw [h6] at pr hq ⊢
      obtain ⟨k1, k2⟩ := kept I.2.1 I.1.1 v1 (I.1.2.1 _ _ _ _ r1) (v2.trans (by rw [h5])) h7 pr h8 hq t0
      have e1 : qS (rs' i').2.2.1 tq (szM H 48 (ak j).2.2.2.2.2) = smL (am H) (((List.range (szM H 48 (ak j).2.2.2.2.2)).filter (fun i => decide (tq i = 11))).map o) := by
        have key : ∀ n, n ≤ szM H 48 (ak j).2.2.2.2.2 → sN (fun v => if tq v = 11 then am (rs' i').2.2.1 v else 0) n = smL (am H) (((List.range n).filter (fun i => decide (tq i = 11))).map o) := by
          intro n
          induction n with
          | zero => intro _; rfl
          | succ n ih =>
            intro hn'
            rw [List.range_succ, List.filter_append, List.map_append, smL_app, ← ih (by omega)]
            show _ + (if tq n = 11 then am (rs' i').2.2.1 n else 0) = _
            by_cases c : tq n = 11
            · rw [if_pos c, List.filter_cons_of_pos (by simpa using c)]
              have ea : am (rs' i').2.2.1 n = am H (o n) := by unfold am; rw [(h8 n (by omega)).2.2.1]
              rw [ea]; rfl
            · rw [if_neg c, List.filter_cons_of_neg (by simpa using c)]; rfl
        exact key _ (Nat.le_refl _)
      rw [e1]
      refine smL_sub _ ?_ (fun v hv => ?_)
      · unfold List.Nodup
        rw [List.pairwise_map]
        exact List.Pairwise.imp_of_mem (fun {a b} ha hb hab q => hab (k2 a b (List.mem_range.mp (List.mem_filter.mp ha).1) (List.mem_range.mp (List.mem_filter.mp hb).1) q)) (List.nodup_range.filter _)
      · obtain ⟨i, i1, i2⟩ := List.mem_map.mp hv
        obtain ⟨i3, i4⟩ := List.mem_filter.mp i1
        obtain ⟨s1, s2, s3⟩ := k1 i (List.mem_range.mp i3)
        subst i2
        refine List.mem_filter.mpr ⟨List.mem_range.mpr (I.2.1.2 _ s2).1, (hbb (j, o i)).mpr ⟨?_, h2, h3, s1⟩⟩
        rw [← s3]; simpa using i4
  · let nm : Nat → Nat × Int64 × Nat := fun j => ((ak j).1, (ak j).2.1, (ak j).2.2.1)
    let A : List (Nat × Int64 × Nat) := (List.range na).map nm
    have ndA : A.Nodup := by
      show ((List.range na).map nm).Nodup
      unfold List.Nodup
      rw [List.pairwise_map]
      refine List.Pairwise.imp_of_mem (fun {a b} ha hb hab q => hab ?_) List.nodup_range
      have q' : ((ak a).1, (ak a).2.1, (ak a).2.2.1) = ((ak b).1, (ak b).2.1, (ak b).2.2.1) := q
      simp only [Prod.mk.injEq] at q'
      exact dst a b (List.mem_range.mp ha) (List.mem_range.mp hb) q'.1 q'.2.1 q'.2.2
    have cut := smG_cut (fun x : Nat × Int64 × Nat => led' x.1 x.2.1 x.2.2) (fun x => decide (x ∈ A)) l
    have p1 : smG (fun x : Nat × Int64 × Nat => led' x.1 x.2.1 x.2.2) (l.filter (fun x => decide (x ∈ A))) ≤ smG (fun x : Nat × Int64 × Nat => led' x.1 x.2.1 x.2.2) A := smG_sub _ (hn.filter _) (fun v hv => by simpa using (List.mem_filter.mp hv).2)
    have p2 : smG (fun x : Nat × Int64 × Nat => led' x.1 x.2.1 x.2.2) A = sN val na := by
      show smG _ ((List.range na).map nm) = _
      rw [smG_rg]
      exact sN_cg (fun j hj => at_ j hj)
    have p3 : smG (fun x : Nat × Int64 × Nat => led' x.1 x.2.1 x.2.2) (l.filter (fun x => !decide (x ∈ A))) ≤ smG (fun x : Nat × Int64 × Nat => led x.1 x.2.1 x.2.2) (l.filter (fun x => !decide (x ∈ A))) := smG_le (fun x hx => by
      have hx' : x ∉ A := by simpa using (List.mem_filter.mp hx).2
      refine Nat.le_of_eq (no_ x.1 x.2.1 x.2.2 (fun j hj q => hx' (List.mem_map.mpr ⟨j, List.mem_range.mpr hj, ?_⟩)))
      show ((ak j).1, (ak j).2.1, (ak j).2.2.1) = x
      rw [q.1, q.2.1, q.2.2])
    have p4 := hS (A ++ l.filter (fun x => !decide (x ∈ A))) (by
      rw [List.nodup_append]
      refine ⟨ndA, hn.filter _, fun a ha b hb e => ?_⟩
      have := (List.mem_filter.mp hb).2
      rw [← e] at this
      simp [ha] at this)
    rw [smG_app] at p4
    have p5 : smG (fun x : Nat × Int64 × Nat => led x.1 x.2.1 x.2.2) A = sN (fun j => led (ak j).1 (ak j).2.1 (ak j).2.2.1) na := by
      show smG _ ((List.range na).map nm) = _
      rw [smG_rg]
    -- what the places asked for are worth
    have p6 : sN val na ≤ sN (fun j => smL (am H) (L j)) na + bS ak na + lim := by
      have q1 : sN val na ≤ sN (fun j => smL (am H) (L j) + (ubA (ak j) + if j = 0 then lim else 0)) na := sN_le (fun j hj => by
        show (if (ak j).1 = 1 then N (akS ak lim j).2.2.2.1 else smL (am H) (L j)) ≤ _
        obtain ⟨_, _, _, _, s5⟩ := akS_n ak lim j
        by_cases c : (ak j).1 = 1
        · rw [if_pos c, s5]
          unfold ubA
          rw [if_pos c]
          by_cases d : j = 0
          · rw [if_pos d, if_pos d]
            have := u_add (ak j).2.2.2.1 (lN lim)
            have l2 : N (lN lim) ≤ lim := Nat.le_of_eq (N_lN (by omega))
            omega
          · rw [if_neg d, if_neg d]; omega
        · rw [if_neg c]; omega)
      have q2 : sN (fun j => if j = 0 then lim else 0) na ≤ lim := by
        have : ∀ n, sN (fun j => if j = 0 then lim else 0) n ≤ lim := by
          intro n
          induction n with
          | zero => exact Nat.zero_le _
          | succ n ih =>
            show sN (fun j => if j = 0 then lim else 0) n + (if n = 0 then lim else 0) ≤ lim
            by_cases d : n = 0
            · subst d; rw [if_pos rfl]; show 0 + lim ≤ lim; omega
            · rw [if_neg d]; omega
        exact this na
      rw [sN_add, sN_add] at q1
      unfold bS
      omega
    have p7 : lS E ak na + lim ≤ sN (fun j => led (ak j).1 (ak j).2.1 (ak j).2.2.1) na := by
      have q1 : sN (fun j => ldA E (ak j) + (if j = 0 then lim else 0)) na ≤ sN (fun j => led (ak j).1 (ak j).2.1 (ak j).2.2.1) na := sN_le (fun j hj => by
        have := hE (ak j).1 (ak j).2.1 (ak j).2.2.1 (by rcases ky j hj with q | q | q <;> omega)
        unfold ldA
        by_cases d : j = 0
        · subst d
          have k0 : (ak 0).2.2.1 = 0 := by rcases ky 0 h0.1 with q | q | q <;> omega
          rw [if_pos ⟨h0.2.1, h0.2.2, k0⟩] at this
          rw [if_pos rfl]; exact this
        · rw [if_neg d]; omega)
      have q2 : lim ≤ sN (fun j => if j = 0 then lim else 0) na := by
        have : ∀ n, 0 < n → lim ≤ sN (fun j => if j = 0 then lim else 0) n := by
          intro n
          induction n with
          | zero => intro h; omega
          | succ n ih =>
            intro _
            show lim ≤ sN (fun j => if j = 0 then lim else 0) n + (if n = 0 then lim else 0)
            by_cases d : n = 0
            · rw [if_pos d]; omega
            · have := ih (by omega); omega
        exact this na h0.1
      rw [sN_add] at q1
      unfold lS
      omega
    have cp' : sN (fun j => smL (am H) (L j)) na + bS ak na ≤ lS E ak na := cp
    omega
end
