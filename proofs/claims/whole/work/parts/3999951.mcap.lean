/-! COINS: what lies below live roots, with the balances asked for, is no more than what the places had -/
def am (H : Hp) (v : Nat) : Nat := N (H v).2.2.1
/-- a node below a root that lies somewhere -/
def Liv (H : Hp) (Lv : Nat → Nat → Nat → Option Nat) (v : Nat) : Prop := ∃ a d k X, Lv a d k = some X ∧ Sub H X v
def smL (f : Nat → Nat) : List Nat → Nat
  | [] => 0
  | v :: l => f v + smL f l
def sN (f : Nat → Nat) : Nat → Nat
  | 0 => 0
  | n + 1 => sN f n + f n
/-- a balance that was asked for; the coins that a place had -/
def ubA (x : Ask) : Nat := if x.1 = 1 then N x.2.2.2.1 else 0
def ldA (E : Ev) (x : Ask) : Nat := E.2.2.2.2 x.1 x.2.1 x.2.2.1
def bS (ak : Nat → Ask) (na : Nat) : Nat := sN (fun k => ubA (ak k)) na
def lS (E : Ev) (ak : Nat → Ask) (na : Nat) : Nat := sN (fun k => ldA E (ak k)) na
/-- an account that is there on the ledger (E counts it under sort 4) is there for the call -/
def AcOk (E : Ev) (na : Nat) (ak : Nat → Ask) : Prop := ∀ j, j < na → (ak j).1 = 1 → E.2.2.2.2 4 (ak j).2.1 0 ≠ 0 → (ak j).2.2.2.2.1 = true
def Cp (E : Ev) (H : Hp) (ty : Nat → Nat) (Lv : Nat → Nat → Nat → Option Nat) (na : Nat) (ak : Nat → Ask) : Prop := (∀ l : List Nat, l.Nodup → (∀ v, v ∈ l → ty v = 11 ∧ Liv H Lv v) → smL (am H) l + bS ak na ≤ lS E ak na) ∧ AcOk E na ak
section
variable {H H' : Hp} {Lv Lv' : Nat → Nat → Nat → Option Nat}
theorem Liv.ind {P : Nat → Prop} (h0 : ∀ a d k X, Lv a d k = some X → P X) (h1 : ∀ y c, P y → c ∈ kds H y → P c) {v : Nat} (h : Liv H Lv v) : P v := by
  obtain ⟨a, d, k, X, hX, n, hn⟩ := h
  have hP := h0 a d k X hX
  clear hX h0
  induction n generalizing X with
  | zero =>
    have e : X = v := hn
    rw [← e]; exact hP
  | succ n ih =>
    rcases hn with e | ⟨c, hc, hn⟩
    · rw [← e]; exact hP
    · exact ih c hn (h1 X c hP hc)
theorem Liv.root {a d k X : Nat} (h : Lv a d k = some X) : Liv H Lv X := ⟨a, d, k, X, h, Sub.refl H X⟩
theorem Liv.sub {y c : Nat} (h : Liv H Lv y) (g : Sub H y c) : Liv H Lv c := by
  obtain ⟨a, d, k, X, hX, hs⟩ := h
  exact ⟨a, d, k, X, hX, hs.trans g⟩
theorem Liv.kid {y c : Nat} (h : Liv H Lv y) (g : c ∈ kds H y) : Liv H Lv c := h.sub (Sub.one g)
end
theorem smL_app (f : Nat → Nat) : ∀ (l m : List Nat), smL f (l ++ m) = smL f l + smL f m
  | [], m => by simp [smL]
  | v :: l, m => by
    show f v + smL f (l ++ m) = f v + smL f l + smL f m
    rw [smL_app f l m]; omega
theorem smL_map (f g : Nat → Nat) : ∀ (l : List Nat), smL f (l.map g) = smL (fun v => f (g v)) l
  | [] => rfl
  | v :: l => by
    show f (g v) + smL f (l.map g) = f (g v) + smL (fun v => f (g v)) l
    rw [smL_map f g l]
theorem smL_le {f g : Nat → Nat} : ∀ {l : List Nat}, (∀ v, v ∈ l → f v ≤ g v) → smL f l ≤ smL g l
  | [], _ => Nat.le_refl _
  | v :: l, h => by
    show f v + smL f l ≤ g v + smL g l
    have h1 := h v (by simp)
    have h2 := smL_le (l := l) (fun w hw => h w (by simp [hw]))
    omega
theorem smL_cut (f : Nat → Nat) (p : Nat → Bool) : ∀ (l : List Nat), smL f l = smL f (l.filter p) + smL f (l.filter (fun v => !p v))
  | [] => rfl
  | v :: l => by
    have ih := smL_cut f p l
    by_cases c : p v = true
    · rw [List.filter_cons_of_pos c, List.filter_cons_of_neg (by simp [c])]
      show f v + smL f l = f v + smL f (l.filter p) + smL f (l.filter (fun v => !p v))
      omega
    · rw [List.filter_cons_of_neg c, List.filter_cons_of_pos (by simp [c])]
      show f v + smL f l = smL f (l.filter p) + (f v + smL f (l.filter (fun v => !p v)))
      omega
theorem smL_out (f : Nat → Nat) {v : Nat} : ∀ {B : List Nat}, v ∈ B → smL f B = f v + smL f (B.erase v)
  | [], h => absurd h (by simp)
  | w :: B, h => by
    by_cases c : w = v
    · subst c; rw [List.erase_cons_head]; rfl
    · rw [List.erase_cons_tail (by simpa using c)]
      have hB : v ∈ B := by
        rcases List.mem_cons.mp h with q | q
        · exact absurd q.symm c
        · exact q
      show f w + smL f B = f v + (f w + smL f (B.erase v))
      have := smL_out f hB
      omega
theorem smL_sub (f : Nat → Nat) : ∀ {l B : List Nat}, l.Nodup → (∀ v, v ∈ l → v ∈ B) → smL f l ≤ smL f B
  | [], _, _, _ => Nat.zero_le _
  | v :: l, B, nd, h => by
    have hv := smL_out f (h v (by simp))
    obtain ⟨n1, n2⟩ := List.nodup_cons.mp nd
    have := smL_sub f (l := l) (B := B.erase v) n2 (fun w hw => (List.mem_erase_of_ne (fun e => n1 (by rw [← e]; exact hw))).mpr (h w (by simp [hw])))
    show f v + smL f l ≤ smL f B
    omega
theorem sN_cg {f g : Nat → Nat} : ∀ {n : Nat}, (∀ k, k < n → f k = g k) → sN f n = sN g n
  | 0, _ => rfl
  | n + 1, h => by
    show sN f n + f n = sN g n + g n
    rw [sN_cg (n := n) (fun k hk => h k (by omega)), h n (by omega)]
/-- one place of a sum is another -/
theorem sN_up {f g : Nat → Nat} {j : Nat} : ∀ {n : Nat}, j < n → (∀ k, k ≠ j → f k = g k) → sN f n + g j = sN g n + f j
  | 0, h, _ => absurd h (by omega)
  | n + 1, h, e => by
    show sN f n + f n + g j = sN g n + g n + f j
    by_cases c : j = n
    · subst c
      rw [sN_cg (f := f) (g := g) (n := j) (fun k hk => e k (by omega))]; omega
    · have := sN_up (f := f) (g := g) (n := n) (by omega) e
      rw [e n (by omega)]; omega
section
variable {E : Ev} {H H' : Hp} {ty ty' : Nat → Nat} {Lv Lv' : Nat → Nat → Nat → Option Nat} {na na' : Nat} {ak ak' : Nat → Ask}
/-- what was consumed (A), what is new (B), the rest by other names -/
theorem Cp.upd (I : Cp E H ty Lv na ak) (ρ : Nat → Nat) (A B : List Nat) (hA : A.Nodup) (hA2 : ∀ v, v ∈ A → ty v = 11 ∧ Liv H Lv v) (h : ∀ v, ty' v = 11 → Liv H' Lv' v → v ∉ B → ty (ρ v) = 11 ∧ Liv H Lv (ρ v) ∧ am H' v ≤ am H (ρ v) ∧ ρ v ∉ A ∧ ∀ w, ty' w = 11 → Liv H' Lv' w → w ∉ B → ρ v = ρ w → v = w) (hb : smL (am H') B + bS ak' na' + lS E ak na ≤ smL (am H) A + bS ak na + lS E ak' na') (hac : AcOk E na' ak') : Cp E H' ty' Lv' na' ak' := by
  refine ⟨fun l nd hl => ?_, hac⟩
  have e := smL_cut (am H') (fun v => decide (v ∈ B)) l
  have p1 : smL (am H') (l.filter (fun v => decide (v ∈ B))) ≤ smL (am H') B := smL_sub _ (nd.filter _) (fun v hv => by simpa using (List.mem_filter.mp hv).2)
  have nf := nd.filter (fun v => !decide (v ∈ B))
  have mem : ∀ v, v ∈ l.filter (fun v => !decide (v ∈ B)) → v ∈ l ∧ v ∉ B := fun v hv => by
    have := List.mem_filter.mp hv
    exact ⟨this.1, by simpa using this.2⟩
  generalize l.filter (fun v => !decide (v ∈ B)) = L at e nf mem
  have hh : ∀ v, v ∈ L → ty (ρ v) = 11 ∧ Liv H Lv (ρ v) ∧ am H' v ≤ am H (ρ v) ∧ ρ v ∉ A ∧ ∀ w, w ∈ L → ρ v = ρ w → v = w := fun v hv => by
    obtain ⟨m1, m2⟩ := mem v hv
    obtain ⟨h1, h2, h3, h4, h5⟩ := h v (hl v m1).1 (hl v m1).2 m2
    exact ⟨h1, h2, h3, h4, fun w hw => h5 w (hl w (mem w hw).1).1 (hl w (mem w hw).1).2 (mem w hw).2⟩
  have hK := I.1 (A ++ L.map ρ) (by
    rw [List.nodup_append]
    refine ⟨hA, ?_, fun a ha b hb q => ?_⟩
    · unfold List.Nodup
      rw [List.pairwise_map]
      exact List.Pairwise.imp_of_mem (fun {a b} ha hb hab q => hab ((hh a ha).2.2.2.2 b hb q)) nf
    · obtain ⟨v, hv, ev⟩ := List.mem_map.mp hb
      rw [q, ← ev] at ha
      exact (hh v hv).2.2.2.1 ha) (fun v hv => by
    rcases List.mem_append.mp hv with q | q
    · exact hA2 v q
    · obtain ⟨w, hw, ew⟩ := List.mem_map.mp q
      rw [← ew]
      exact ⟨(hh w hw).1, (hh w hw).2.1⟩)
  rw [smL_app, smL_map] at hK
  have p2 : smL (am H') L ≤ smL (fun v => am H (ρ v)) L := smL_le (fun v hv => (hh v hv).2.2.1)
  omega
/-- nothing more is live -/
theorem Cp.mono (I : Cp E H ty Lv na ak) (h : ∀ v, ty' v = 11 → Liv H' Lv' v → ty v = 11 ∧ Liv H Lv v ∧ am H' v ≤ am H v) (hb : bS ak' na' + lS E ak na ≤ bS ak na + lS E ak' na') (hac : AcOk E na' ak') : Cp E H' ty' Lv' na' ak' := by
  refine I.upd id [] [] (by simp) (fun v hv => absurd hv (by simp)) (fun v h1 h2 _ => ?_) (by simp only [smL]; omega) hac
  obtain ⟨a1, a2, a3⟩ := h v h1 h2
  exact ⟨a1, a2, a3, by simp, fun w _ _ _ q => q⟩
theorem Cp.roots (I : Cp E H ty Lv na ak) (h : ∀ a d k X, Lv' a d k = some X → Liv H Lv X) : Cp E H ty Lv' na ak := I.mono (fun v h1 h2 => ⟨h1, h2.ind (P := Liv H Lv) h (fun y c hy hc => hy.kid hc), Nat.le_refl _⟩) (Nat.le_refl _) I.2
end
/-- the machine's state, with its coins -/
def MJ (E : Ev) (H : Hp) (m : Nat) (ty : Nat → Nat) (fr : Nat → Fm) (nf na : Nat) (ak : Nat → Ask) (hd : Nat → Option Nat) : Prop := BInv H (LvA fr nf na ak hd) (RfA fr nf) (ghA fr nf) (rsA E fr nf) (rbA E fr ak) ∧ HT E H m ty ∧ (∀ d, d < nf → (∀ k, k < (fr d).2.2.1.1 → SlT H ty ((fr d).2.2.1.2 k)) ∧ (∀ k s, (fr d).2.1 k = some s → k < 40 ∧ SlT H ty s) ∧ ∀ k s, (fr d).2.2.2 k = some s → s.2.1 ≠ 0 ∧ SlT H ty s) ∧ (∀ k x, hd k = some x → (H x).1 ≠ 0) ∧ (∀ k, k < na → (ak k).1 = 3 → (ak k).2.2.2.2.1 = true → (H (ak k).2.2.2.2.2).1 ≠ 0 ∧ ty (ak k).2.2.2.2.2 = 256 + (ak k).2.2.1) ∧ (∀ k, 0 < nf → (fr (nf - 1)).2.2.2 k = none) ∧ 0 < nf ∧ Cp E H ty (LvA fr nf na ak hd) na ak
section
variable {E : Ev} {H : Hp} {m : Nat} {ty : Nat → Nat} {fr : Nat → Fm} {nf na : Nat} {ak : Nat → Ask} {hd : Nat → Option Nat}
theorem MJ.m0 (I : MJ E H m ty fr nf na ak hd) : MJ0 E H m ty fr nf na ak hd := ⟨I.1, I.2.1, I.2.2.1, I.2.2.2.1, I.2.2.2.2.1, I.2.2.2.2.2.1, I.2.2.2.2.2.2.1⟩
theorem MJ.cp (I : MJ E H m ty fr nf na ak hd) : Cp E H ty (LvA fr nf na ak hd) na ak := I.2.2.2.2.2.2.2
theorem MJ0.mk (I : MJ0 E H m ty fr nf na ak hd) (c : Cp E H ty (LvA fr nf na ak hd) na ak) : MJ E H m ty fr nf na ak hd := ⟨I.1, I.2.1, I.2.2.1, I.2.2.2.1, I.2.2.2.2.1, I.2.2.2.2.2.1, I.2.2.2.2.2.2, c⟩
theorem MJ0.live (I : MJ0 E H m ty fr nf na ak hd) {v : Nat} (h : Liv H (LvA fr nf na ak hd) v) : (H v).1 ≠ 0 := h.ind (P := fun v => (H v).1 ≠ 0) (fun _ _ _ _ q => I.lva q) (fun _ _ _ hc => (I.2.1.al hc).2)
/-- what a reference points to is live -/
theorem MJ0.rlive (I : MJ0 E H m ty fr nf na ak hd) : ∀ (d : Nat) (s : Sl), RfA fr nf d s → Liv H (LvA fr nf na ak hd) s.1 := by
  intro d
  induction d with
  | zero =>
    intro s hs
    obtain ⟨b, hb, q | q | q⟩ := I.1.2.2.2.1 0 s hs
    · obtain ⟨_, X, hX, h1, _⟩ := q
      exact ⟨_, _, _, X, hX, h1⟩
    · obtain ⟨a0, a1, a2, g, a3, a4, a5, a6⟩ := q
      omega
    · obtain ⟨_, _, j, X, hX, _, h1, _⟩ := q
      exact ⟨_, _, _, X, hX, h1⟩
  | succ d ih =>
    intro s hs
    obtain ⟨b, hb, q | q | q⟩ := I.1.2.2.2.1 (d + 1) s hs
    · obtain ⟨_, X, hX, h1, _⟩ := q
      exact ⟨_, _, _, X, hX, h1⟩
    · obtain ⟨a0, a1, a2, g, a3, a4, a5, a6⟩ := q
      exact (ih g (I.1.2.2.2.2.1 _ _ _ a3)).sub a5
    · obtain ⟨_, _, j, X, hX, _, h1, _⟩ := q
      exact ⟨_, _, _, X, hX, h1⟩
theorem MJ.top (I : MJ E H m ty fr nf na ak hd) (x : Fm) (hx1 : x.1.1 = (fr (nf - 1)).1.1) (hx2 : x.1.2.1 = (fr (nf - 1)).1.2.1) (hx3 : ∀ k, x.2.2.2 k = none) (hd' : Nat → Option Nat) (ρ : Nat → Nat → Nat → Nat × Nat × Nat)
    (cρ : ∀ a d k, a ≠ 3 → ¬ (a ≤ 1 ∧ d = nf - 1) → ρ a d k = (a, d, k))
    (c0 : ∀ k, k < x.2.2.1.1 → ∀ X, pln (x.2.2.1.2 k) = some X → ∃ a0 d0 k0, LvA fr nf na ak hd a0 d0 k0 = some X ∧ ρ a0 d0 k0 = (0, nf - 1, k))
    (c1 : ∀ k X, (x.2.1 k).bind pln = some X → ∃ a0 d0 k0, LvA fr nf na ak hd a0 d0 k0 = some X ∧ ρ a0 d0 k0 = (1, nf - 1, k))
    (c3 : ∀ k X, hd' k = some X → ∃ a0 d0 k0, LvA fr nf na ak hd a0 d0 k0 = some X ∧ ρ a0 d0 k0 = (3, 0, k))
    (c5 : ∀ k X, ((fr (nf - 1)).2.1 k).bind pln = some X → (x.2.1 k).bind pln = some X ∨ ∀ e s, RfA (setF fr (nf - 1) x) nf e s → ¬ Sub H X s.1)
    (cr : ∀ s, s.2.1 ≠ 0 → ((∃ k, k < x.2.2.1.1 ∧ x.2.2.1.2 k = s) ∨ ∃ k, x.2.1 k = some s) → RfA fr nf (nf - 1) s ∨ RefOk H (LvA fr nf na ak hd) (ghA fr nf) (rsA E fr nf) (rbA E fr ak) (nf - 1) s)
    (cs : ∀ k, k < x.2.2.1.1 → SlT H ty (x.2.2.1.2 k)) (cl : ∀ k s, x.2.1 k = some s → k < 40 ∧ SlT H ty s) : MJ E H m ty (setF fr (nf - 1) x) nf na ak hd' := by
  have hnf := I.2.2.2.2.2.2.1
  have top : nf - 1 < nf := by omega
  refine (I.m0.top x hx1 hx2 hx3 hd' ρ cρ c0 c1 c3 c5 cr cs cl).mk (I.cp.roots (fun a d k X q => ?_))
  have key : ∃ a0 d0 k0, LvA fr nf na ak hd a0 d0 k0 = some X := by
    by_cases c : a = 3
    · subst c
      rw [lv3] at q
      by_cases c : d = 0
      · subst c; rw [if_pos rfl] at q
        obtain ⟨a0, d0, k0, h, _⟩ := c3 k X q
        exact ⟨a0, d0, k0, h⟩
      · rw [if_neg c] at q; exact absurd q (by simp)
    · by_cases c2 : a ≤ 1 ∧ d = nf - 1
      · obtain ⟨c2, c4⟩ := c2
        subst c4
        by_cases c6 : a = 0
        · subst c6
          rw [lv0, setF_s] at q
          by_cases c7 : nf - 1 < nf ∧ k < x.2.2.1.1
          · rw [if_pos c7] at q
            obtain ⟨a0, d0, k0, h, _⟩ := c0 k c7.2 X q
            exact ⟨a0, d0, k0, h⟩
          · rw [if_neg c7] at q; exact absurd q (by simp)
        · have : a = 1 := by omega
          subst this
          rw [lv1, if_pos top, setF_s] at q
          obtain ⟨a0, d0, k0, h, _⟩ := c1 k X q
          exact ⟨a0, d0, k0, h⟩
      · rw [lvo (hd := hd) c c2] at q
        exact ⟨a, d, k, q⟩
  obtain ⟨a0, d0, k0, h⟩ := key
  exact Liv.root h
theorem MJ.popN (I : MJ E H m ty fr nf na ak (fun _ => none)) {n : Nat} (hn : n ≤ (fr (nf - 1)).2.2.1.1) (hp : ∀ i, i < n → ((fr (nf - 1)).2.2.1.2 ((fr (nf - 1)).2.2.1.1 - n + i)).2.1 = 0) : MJ E H m ty (setF fr (nf - 1) (setH (fr (nf - 1)) ((fr (nf - 1)).2.2.1.1 - n))) nf na ak (fun i => if i < n then some ((fr (nf - 1)).2.2.1.2 ((fr (nf - 1)).2.2.1.1 - n + i)).1 else none) := by
  have hnf := I.2.2.2.2.2.2.1
  have sl := I.2.2.1 (nf - 1) (by omega)
  refine I.top (setH (fr (nf - 1)) ((fr (nf - 1)).2.2.1.1 - n)) rfl rfl (fun k => I.2.2.2.2.2.1 k hnf) _ (fun a d k => if a = 0 ∧ d = nf - 1 ∧ (fr (nf - 1)).2.2.1.1 - n ≤ k then (3, 0, k - ((fr (nf - 1)).2.2.1.1 - n)) else (a, d, k)) ?_ ?_ ?_ ?_ ?_ ?_ ?_ ?_
  · intro a d k _ h; exact if_neg (fun q => h ⟨by omega, q.2.1⟩)
  · intro k hk X q
    simp only [setH] at hk q
    refine ⟨0, nf - 1, k, ?_, if_neg (by omega)⟩
    rw [lv0, if_pos ⟨by omega, by omega⟩]; exact q
  · intro k X q
    refine ⟨1, nf - 1, k, ?_, if_neg (by omega)⟩
    rw [lv1, if_pos (by omega)]; exact q
  · intro k X q
    by_cases c : k < n
    · simp only [if_pos c, Option.some.injEq] at q
      refine ⟨0, nf - 1, (fr (nf - 1)).2.2.1.1 - n + k, ?_, ?_⟩
      · rw [lv0, if_pos ⟨by omega, by omega⟩, pln0 (hp k c), q]
      · rw [if_pos ⟨rfl, rfl, by omega⟩, show (fr (nf - 1)).2.2.1.1 - n + k - ((fr (nf - 1)).2.2.1.1 - n) = k by omega]
    · simp only [if_neg c] at q; exact absurd q (by simp)
  · intro k X q; exact .inl q
  · intro s h0 h
    refine .inl ⟨by omega, h0, ?_⟩
    rcases h with ⟨k, k1, k2⟩ | h
    · simp only [setH] at k1 k2
      exact .inl ⟨k, by omega, k2⟩
    · exact .inr (.inl h)
  · intro k h
    simp only [setH] at h ⊢
    exact sl.1 k (by omega)
  · exact sl.2.1
theorem MJ.nf0 (I : MJ E H m ty fr nf na ak hd) : 0 < nf := I.2.2.2.2.2.2.1
theorem MJ.g0 (I : MJ E H m ty fr nf na ak hd) (k : Nat) : (fr (nf - 1)).2.2.2 k = none := I.2.2.2.2.2.1 k I.nf0
theorem MJ.sl (I : MJ E H m ty fr nf na ak hd) : (∀ k, k < (fr (nf - 1)).2.2.1.1 → SlT H ty ((fr (nf - 1)).2.2.1.2 k)) ∧ (∀ k s, (fr (nf - 1)).2.1 k = some s → k < 40 ∧ SlT H ty s) := ⟨(I.2.2.1 _ (by have := I.nf0; omega)).1, (I.2.2.1 _ (by have := I.nf0; omega)).2.1⟩
theorem MJ.at0 (I : MJ E H m ty fr nf na ak hd) {k : Nat} (hk : k < (fr (nf - 1)).2.2.1.1) : LvA fr nf na ak hd 0 (nf - 1) k = pln ((fr (nf - 1)).2.2.1.2 k) := by rw [lv0, if_pos ⟨by have := I.nf0; omega, hk⟩]
theorem MJ.at1 (I : MJ E H m ty fr nf na ak hd) (k : Nat) : LvA fr nf na ak hd 1 (nf - 1) k = ((fr (nf - 1)).2.1 k).bind pln := by rw [lv1, if_pos (by have := I.nf0; omega)]
theorem MJ.at3 (k : Nat) : LvA fr nf na ak hd 3 0 k = hd k := by rw [lv3, if_pos rfl]
theorem MJ.dropN (I : MJ E H m ty fr nf na ak hd) (n : Nat) {hd' : Nat → Option Nat} (hh : ∀ k X, hd' k = some X → hd k = some X) : MJ E H m ty (setF fr (nf - 1) (setH (fr (nf - 1)) ((fr (nf - 1)).2.2.1.1 - n))) nf na ak hd' := by
  refine I.top (setH (fr (nf - 1)) ((fr (nf - 1)).2.2.1.1 - n)) rfl rfl I.g0 _ (fun a d k => (a, d, k)) (fun _ _ _ _ _ => rfl) ?_ ?_ ?_ (fun k X q => .inl q) ?_ ?_ I.sl.2
  · intro k hk X q
    simp only [setH] at hk q
    exact ⟨0, nf - 1, k, by rw [I.at0 (by omega)]; exact q, rfl⟩
  · intro k X q
    exact ⟨1, nf - 1, k, by rw [I.at1]; exact q, rfl⟩
  · intro k X q
    exact ⟨3, 0, k, by rw [MJ.at3]; exact hh k X q, rfl⟩
  · intro s h0 h
    refine .inl ⟨by have := I.nf0; omega, h0, ?_⟩
    rcases h with ⟨k, k1, k2⟩ | h
    · simp only [setH] at k1 k2
      exact .inl ⟨k, by omega, k2⟩
    · exact .inr (.inl h)
  · intro k h
    simp only [setH] at h ⊢
    exact I.sl.1 k (by omega)
theorem MJ.pushN (I : MJ E H m ty fr nf na ak hd) (n : Nat) (sl : Nat → Sl) (hs : ∀ i, i < n → hd i = some (sl i).1 ∧ (sl i).2.1 = 0 ∧ ty (sl i).1 = (sl i).2.2.1) : MJ E H m ty (setF fr (nf - 1) (setN (fr (nf - 1)) n sl)) nf na ak (fun i => if i < n then none else hd i) := by
  refine I.top (setN (fr (nf - 1)) n sl) rfl rfl I.g0 _ (fun a d k => if a = 3 ∧ k < n then (0, nf - 1, (fr (nf - 1)).2.2.1.1 + k) else (a, d, k)) (fun a d k h _ => if_neg (fun q => h q.1)) ?_ ?_ ?_ (fun k X q => .inl q) ?_ ?_ I.sl.2
  · intro k hk X q
    simp only [setN] at hk q
    by_cases c : k < (fr (nf - 1)).2.2.1.1
    · rw [if_pos c] at q
      exact ⟨0, nf - 1, k, by rw [I.at0 c]; exact q, if_neg (by omega)⟩
    · rw [if_neg c] at q
      obtain ⟨h1, h2, _⟩ := hs (k - (fr (nf - 1)).2.2.1.1) (by omega)
      refine ⟨3, 0, k - (fr (nf - 1)).2.2.1.1, ?_, ?_⟩
      · rw [MJ.at3, h1, (pln_e q).2]
      · rw [if_pos ⟨rfl, by omega⟩, show (fr (nf - 1)).2.2.1.1 + (k - (fr (nf - 1)).2.2.1.1) = k by omega]
  · intro k X q
    exact ⟨1, nf - 1, k, by rw [I.at1]; exact q, if_neg (by omega)⟩
  · intro k X q
    by_cases c : k < n
    · simp only [if_pos c] at q; exact absurd q (by simp)
    · simp only [if_neg c] at q
      exact ⟨3, 0, k, by rw [MJ.at3]; exact q, if_neg (by omega)⟩
  · intro s h0 h
    refine .inl ⟨by have := I.nf0; omega, h0, ?_⟩
    rcases h with ⟨k, k1, k2⟩ | h
    · simp only [setN] at k1 k2
      by_cases c : k < (fr (nf - 1)).2.2.1.1
      · rw [if_pos c] at k2
        exact .inl ⟨k, c, k2⟩
      · rw [if_neg c] at k2
        rw [← k2, (hs _ (by omega)).2.1] at h0
        exact absurd rfl h0
    · exact .inr (.inl h)
  · intro k h
    simp only [setN] at h ⊢
    by_cases c : k < (fr (nf - 1)).2.2.1.1
    · rw [if_pos c]; exact I.sl.1 k c
    · rw [if_neg c]
      obtain ⟨h1, h2, h3⟩ := hs (k - (fr (nf - 1)).2.2.1.1) (by omega)
      exact ⟨I.2.2.2.1 _ _ h1, h3, .inl h2⟩
theorem MJ.pushR (I : MJ E H m ty fr nf na ak hd) {s : Sl} (h : rOk E H fr nf na ak hd s) (ht : SlT H ty s) (h9 : s.2.1 ≠ 0) : MJ E H m ty (setF fr (nf - 1) (setS (fr (nf - 1)) (fr (nf - 1)).2.2.1.1 s)) nf na ak hd := by
  refine I.top (setS (fr (nf - 1)) (fr (nf - 1)).2.2.1.1 s) rfl rfl I.g0 _ (fun a d k => (a, d, k)) (fun _ _ _ _ _ => rfl) ?_ ?_ ?_ (fun k X q => .inl q) ?_ ?_ I.sl.2
  · intro k hk X q
    simp only [setS] at hk q
    by_cases c : k = (fr (nf - 1)).2.2.1.1
    · rw [if_pos c] at q
      exact absurd (pln_e q).1 h9
    · rw [if_neg c] at q
      exact ⟨0, nf - 1, k, by rw [I.at0 (by omega)]; exact q, rfl⟩
  · intro k X q
    exact ⟨1, nf - 1, k, by rw [I.at1]; exact q, rfl⟩
  · intro k X q
    exact ⟨3, 0, k, by rw [MJ.at3]; exact q, rfl⟩
  · intro s' h0 q
    rcases q with ⟨k, k1, k2⟩ | q
    · simp only [setS] at k1 k2
      by_cases c : k = (fr (nf - 1)).2.2.1.1
      · rw [if_pos c] at k2; rw [← k2]; exact .inr h
      · rw [if_neg c] at k2
        exact .inl ⟨by have := I.nf0; omega, h0, .inl ⟨k, by omega, k2⟩⟩
    · exact .inl ⟨by have := I.nf0; omega, h0, .inr (.inl q)⟩
  · intro k hk
    simp only [setS] at hk ⊢
    by_cases c : k = (fr (nf - 1)).2.2.1.1
    · rw [if_pos c]; exact ht
    · rw [if_neg c]; exact I.sl.1 k (by omega)
theorem MJ.locOut (I : MJ E H m ty fr nf na ak (fun _ => none)) {k : Nat} {s : Sl} (hk : (fr (nf - 1)).2.1 k = some s) (h0 : s.2.1 = 0) (hf : ∀ q, RfA fr nf (nf - 1) q → ob q.2.2.2.1 k = false) : MJ E H m ty (setF fr (nf - 1) (setLo (fr (nf - 1)) k none)) nf na ak (fun i => if i = 0 then some s.1 else none) := by
  have hl : LvA fr nf na ak (fun _ => none) 1 (nf - 1) k = some s.1 := by rw [I.at1, hk, Option.bind_some, pln0 h0]
  refine I.top (setLo (fr (nf - 1)) k none) rfl rfl I.g0 _ (fun a d j => if a = 1 ∧ d = nf - 1 ∧ j = k then (3, 0, 0) else (a, d, j)) (fun a d j h1 h2 => if_neg (fun q => h2 ⟨by omega, q.2.1⟩)) ?_ ?_ ?_ ?_ ?_ I.sl.1 ?_
  · intro j hj X q
    exact ⟨0, nf - 1, j, by rw [I.at0 hj]; exact q, if_neg (by omega)⟩
  · intro j X q
    simp only [setLo] at q
    by_cases c : j = k
    · rw [if_pos c] at q; exact absurd q (by simp)
    · rw [if_neg c] at q
      exact ⟨1, nf - 1, j, by rw [I.at1]; exact q, if_neg (fun q => c q.2.2)⟩
  · intro j X q
    by_cases c : j = 0
    · simp only [if_pos c, Option.some.injEq] at q
      exact ⟨1, nf - 1, k, by rw [hl, q], by rw [if_pos ⟨rfl, rfl, rfl⟩, c]⟩
    · simp only [if_neg c] at q; exact absurd q (by simp)
  · intro j X q
    simp only [setLo]
    by_cases c : j = k
    · right
      subst c
      intro e t ht hs
      have hX : LvA fr nf na ak (fun _ => none) 1 (nf - 1) j = some X := by rw [I.at1]; exact q
      have ht' : RfA fr nf e t := by
        obtain ⟨t1, t2, t3⟩ := ht
        refine ⟨t1, t2, ?_⟩
        by_cases c : e = nf - 1
        · subst c
          rw [setF_s] at t3
          rcases t3 with t3 | ⟨i, t3⟩ | t3
          · exact .inl t3
          · simp only [setLo] at t3
            by_cases c : i = j
            · rw [if_pos c] at t3; exact absurd t3 (by simp)
            · rw [if_neg c] at t3; exact .inr (.inl ⟨i, t3⟩)
          · exact .inr (.inr t3)
        · rw [setF_n c] at t3; exact t3
      obtain ⟨e1, e2, _⟩ := I.1.lemA hX e t (by have := ht'.1; omega) ht' hs
      subst e1
      rw [hf t ht'] at e2
      exact absurd e2 (by decide)
    · rw [if_neg c]; exact .inl q
  · intro s' g0 q
    refine .inl ⟨by have := I.nf0; omega, g0, ?_⟩
    rcases q with q | ⟨i, q⟩
    · exact .inl q
    · simp only [setLo] at q
      by_cases c : i = k
      · rw [if_pos c] at q; exact absurd q (by simp)
      · rw [if_neg c] at q; exact .inr (.inl ⟨i, q⟩)
  · intro i s' q
    simp only [setLo] at q
    by_cases c : i = k
    · rw [if_pos c] at q; exact absurd q (by simp)
    · rw [if_neg c] at q; exact I.sl.2 i s' q
theorem MJ.locR (I : MJ E H m ty fr nf na ak hd) {k : Nat} {s : Option Sl} (hk : ∀ q, (fr (nf - 1)).2.1 k = some q → q.2.1 ≠ 0) (h : ∀ q, s = some q → k < 40 ∧ q.2.1 ≠ 0 ∧ SlT H ty q ∧ rOk E H fr nf na ak hd q) : MJ E H m ty (setF fr (nf - 1) (setLo (fr (nf - 1)) k s)) nf na ak hd := by
  have nb : ∀ q : Sl, q.2.1 ≠ 0 → pln q = none := fun q h => by rw [pln, if_neg h]
  refine I.top (setLo (fr (nf - 1)) k s) rfl rfl I.g0 _ (fun a d j => (a, d, j)) (fun _ _ _ _ _ => rfl) ?_ ?_ ?_ ?_ ?_ I.sl.1 ?_
  · intro j hj X q
    exact ⟨0, nf - 1, j, by rw [I.at0 hj]; exact q, rfl⟩
  · intro j X q
    simp only [setLo] at q
    by_cases c : j = k
    · rw [if_pos c] at q
      cases hs : s with
      | none => rw [hs] at q; exact absurd q (by simp)
      | some t => rw [hs, Option.bind_some, nb t (h t hs).2.1] at q; exact absurd q (by simp)
    · rw [if_neg c] at q
      exact ⟨1, nf - 1, j, by rw [I.at1]; exact q, rfl⟩
  · intro j X q
    exact ⟨3, 0, j, by rw [MJ.at3]; exact q, rfl⟩
  · intro j X q
    simp only [setLo]
    by_cases c : j = k
    · subst c
      cases hs : (fr (nf - 1)).2.1 j with
      | none => rw [hs] at q; exact absurd q (by simp)
      | some t => rw [hs, Option.bind_some, nb t (hk t hs)] at q; exact absurd q (by simp)
    · rw [if_neg c]; exact .inl q
  · intro s' g0 q
    rcases q with q | ⟨i, q⟩
    · exact .inl ⟨by have := I.nf0; omega, g0, .inl q⟩
    · simp only [setLo] at q
      by_cases c : i = k
      · rw [if_pos c] at q; exact .inr (h s' q).2.2.2
      · rw [if_neg c] at q; exact .inl ⟨by have := I.nf0; omega, g0, .inr (.inl ⟨i, q⟩)⟩
  · intro i s' q
    simp only [setLo] at q
    by_cases c : i = k
    · rw [if_pos c] at q; rw [c]; exact ⟨(h s' q).1, (h s' q).2.2.1⟩
    · rw [if_neg c] at q; exact I.sl.2 i s' q
theorem MJ.locIn {X : Nat} (I : MJ E H m ty fr nf na ak (fun i => if i = 0 then some X else none)) {k : Nat} {s : Sl} (hs : s.1 = X) (h0 : s.2.1 = 0) (ht : ty s.1 = s.2.2.1) (h40 : k < 40) (hf : ∀ q, RfA fr nf (nf - 1) q → ob q.2.2.2.1 k = false) (hp : ∀ q, (fr (nf - 1)).2.1 k = some q → q.2.1 = 0) : MJ E H m ty (setF fr (nf - 1) (setLo (fr (nf - 1)) k (some s))) nf na ak (fun _ => none) := by
  have esub : ∀ e t, RfA (setF fr (nf - 1) (setLo (fr (nf - 1)) k (some s))) nf e t → RfA fr nf e t := by
    intro e t ⟨t1, t2, t3⟩
    refine ⟨t1, t2, ?_⟩
    by_cases c : e = nf - 1
    · subst c
      rw [setF_s] at t3
      rcases t3 with t3 | ⟨i, t3⟩ | t3
      · exact .inl t3
      · simp only [setLo] at t3
        by_cases c : i = k
        · rw [if_pos c] at t3; cases t3; exact absurd h0 t2
        · rw [if_neg c] at t3; exact .inr (.inl ⟨i, t3⟩)
      · exact .inr (.inr t3)
    · rw [setF_n c] at t3; exact t3
  refine I.top (setLo (fr (nf - 1)) k (some s)) rfl rfl I.g0 _ (fun a d j => if a = 3 then (1, nf - 1, k) else (a, d, j)) (fun a d j h1 h2 => if_neg h1) ?_ ?_ ?_ ?_ ?_ I.sl.1 ?_
  · intro j hj X q
    exact ⟨0, nf - 1, j, by rw [I.at0 hj]; exact q, if_neg (by omega)⟩
  · intro j Y q
    simp only [setLo] at q
    by_cases c : j = k
    · rw [if_pos c, Option.bind_some] at q
      have := (pln_e q).2
      exact ⟨3, 0, 0, by rw [MJ.at3, if_pos rfl, ← hs, this], by rw [if_pos rfl, c]⟩
    · rw [if_neg c] at q
      exact ⟨1, nf - 1, j, by rw [I.at1]; exact q, if_neg (by omega)⟩
  · intro j Y q; exact absurd q (by simp)
  · intro j Y q
    simp only [setLo]
    by_cases c : j = k
    · right
      subst c
      intro e t ht' hs'
      have hY : LvA fr nf na ak (fun i => if i = 0 then some X else none) 1 (nf - 1) j = some Y := by rw [I.at1]; exact q
      have ht2 := esub e t ht'
      obtain ⟨e1, e2, _⟩ := I.1.lemA hY e t (by have := ht2.1; omega) ht2 hs'
      subst e1
      rw [hf t ht2] at e2
      exact absurd e2 (by decide)
    · rw [if_neg c]; exact .inl q
  · intro s' g0 q
    exact .inl (esub (nf - 1) s' ⟨by have := I.nf0; omega, g0, by rw [setF_s]; exact q.elim (fun q => .inl q) (fun q => .inr (.inl q))⟩)
  · intro i s' q
    simp only [setLo] at q
    by_cases c : i = k
    · rw [if_pos c] at q; cases q
      exact ⟨by omega, I.2.2.2.1 0 s.1 (by simp [hs]), ht, .inl h0⟩
    · rw [if_neg c] at q; exact I.sl.2 i s' q
theorem MJ.weak (I : MJ E H m ty fr nf na ak hd) (x : Fm) (hx1 : x.1.1 = (fr (nf - 1)).1.1) (hx2 : x.1.2.1 = (fr (nf - 1)).1.2.1) (hx3 : ∀ k, x.2.2.2 k = none) (hh : x.2.2.1.1 = (fr (nf - 1)).2.2.1.1) (hs : ∀ k, k < x.2.2.1.1 → wk ((fr (nf - 1)).2.2.1.2 k) (x.2.2.1.2 k)) (hl : ∀ k, (x.2.1 k = none ∧ ∀ q, (fr (nf - 1)).2.1 k = some q → q.2.1 ≠ 0) ∨ ∃ q q', (fr (nf - 1)).2.1 k = some q ∧ x.2.1 k = some q' ∧ wk q q') : MJ E H m ty (setF fr (nf - 1) x) nf na ak hd := by
  have nb : ∀ q : Sl, q.2.1 ≠ 0 → pln q = none := fun q h => by rw [pln, if_neg h]
  have lp : ∀ k, (x.2.1 k).bind pln = ((fr (nf - 1)).2.1 k).bind pln := by
    intro k
    rcases hl k with ⟨h1, h2⟩ | ⟨q, q', h1, h2, h3⟩
    · rw [h1]
      cases hs : (fr (nf - 1)).2.1 k with
      | none => rfl
      | some t => rw [Option.bind_some, nb t (h2 t hs)]; rfl
    · rw [h1, h2, Option.bind_some, Option.bind_some, h3.pe]
  have rk : ∀ q q', RfA fr nf (nf - 1) q → wk q q' → rOk E H fr nf na ak hd q' := by
    intro q q' hq w
    exact (I.1.2.2.2.1 _ q hq).mono (by rw [w.1]; exact Sub.refl H q.1) (fun h => by rw [← w.2.1]; exact h) w.2.2.2.1 (fun h => ⟨w.2.2.2.2 h, w.1⟩)
  refine I.top x hx1 hx2 hx3 _ (fun a d j => (a, d, j)) (fun _ _ _ _ _ => rfl) ?_ ?_ ?_ ?_ ?_ ?_ ?_
  · intro j hj X q
    rw [(hs j hj).pe] at q
    exact ⟨0, nf - 1, j, by rw [I.at0 (by omega)]; exact q, rfl⟩
  · intro j X q
    rw [lp] at q
    exact ⟨1, nf - 1, j, by rw [I.at1]; exact q, rfl⟩
  · intro j X q
    exact ⟨3, 0, j, by rw [MJ.at3]; exact q, rfl⟩
  · intro j X q
    rw [lp]; exact .inl q
  · intro s' g0 q
    right
    rcases q with ⟨k, k1, k2⟩ | ⟨k, q⟩
    · have w := hs k k1
      rw [k2] at w
      exact rk _ _ ⟨by have := I.nf0; omega, by rw [← w.2.1]; exact g0, .inl ⟨k, by omega, rfl⟩⟩ w
    · rcases hl k with ⟨h1, h2⟩ | ⟨t, t', h1, h2, h3⟩
      · rw [h1] at q; exact absurd q (by simp)
      · rw [h2] at q; cases q
        exact rk _ _ ⟨by have := I.nf0; omega, by rw [← h3.2.1]; exact g0, .inr (.inl ⟨k, h1⟩)⟩ h3
  · intro k hk
    obtain ⟨w1, w2, w3, _⟩ := hs k hk
    obtain ⟨a1, a2, a3⟩ := I.sl.1 k (by omega)
    exact ⟨by rw [w1]; exact a1, by rw [w1, w3]; exact a2, by rw [w2]; exact a3⟩
  · intro k s' q
    rcases hl k with ⟨h1, h2⟩ | ⟨t, t', h1, h2, h3⟩
    · rw [h1] at q; exact absurd q (by simp)
    · rw [h2] at q; cases q
      obtain ⟨b, a1, a2, a3⟩ := I.sl.2 k t h1
      obtain ⟨w1, w2, w3, _⟩ := h3
      exact ⟨b, by rw [w1]; exact a1, by rw [w1, w3]; exact a2, by rw [w2]; exact a3⟩
theorem MJ.hands (I : MJ E H m ty fr nf na ak hd) {hd' : Nat → Option Nat} (hh : ∀ k X, hd' k = some X → hd k = some X) : MJ E H m ty fr nf na ak hd' := by
  have := I.dropN 0 hh
  have e : setH (fr (nf - 1)) ((fr (nf - 1)).2.2.1.1 - 0) = fr (nf - 1) := rfl
  rw [e, setF_id] at this
  exact this
theorem MJ.lva (I : MJ E H m ty fr nf na ak hd) {a d k X : Nat} (h : LvA fr nf na ak hd a d k = some X) : (H X).1 ≠ 0 := I.m0.lva h
theorem MJ.rfa (I : MJ E H m ty fr nf na ak hd) {d : Nat} {s : Sl} (h : RfA fr nf d s) : (H s.1).1 ≠ 0 ∧ ty s.1 = s.2.2.1 := I.m0.rfa h
theorem MJ.lt (I : MJ E H m ty fr nf na ak hd) {v : Nat} (h : (H v).1 ≠ 0) : v < m := I.m0.lt h
theorem MJ.dead (I : MJ E H m ty fr nf na ak hd) {v : Nat} (h : m ≤ v) : H v = (0, 0, 0, []) := I.m0.dead h
theorem MJ.held (I : MJ E H m ty fr nf na ak hd) {i x : Nat} (h : hd i = some x) : (H x).1 ≠ 0 ∧ Rt H x ∧ (∀ d s, RfA fr nf d s → ¬ Sub H x s.1) ∧ ∀ a d k, LvA fr nf na ak (fun _ => none) a d k ≠ some x := I.m0.held h
theorem MJ.nohd (I : MJ E H m ty fr nf na ak hd) : MJ E H m ty fr nf na ak (fun _ => none) := I.hands (fun k X q => absurd q (by simp))
theorem fresh_liv (I : MJ0 E H m ty fr nf na ak hd) {H' : Hp} (hold : ∀ v, v < m → H' v = H v) (hk : ∀ i c, m ≤ i → c ∈ kds H' i → m ≤ c) {Lv' : Nat → Nat → Nat → Option Nat} (hr : ∀ a d k X, Lv' a d k = some X → m ≤ X ∨ Liv H (LvA fr nf na ak hd) X) {v : Nat} (h : Liv H' Lv' v) : m ≤ v ∨ (v < m ∧ Liv H (LvA fr nf na ak hd) v) := by
  refine h.ind (P := fun v => m ≤ v ∨ (v < m ∧ Liv H (LvA fr nf na ak hd) v)) (fun a d k X q => ?_) (fun y c hy hc => ?_)
  · rcases hr a d k X q with q | q
    · exact .inl q
    · exact .inr ⟨I.lt (I.live q), q⟩
  · rcases hy with hy | ⟨hy, hy2⟩
    · exact .inl (hk y c hy hc)
    · rw [kds, hold y hy] at hc
      exact .inr ⟨I.lt (I.2.1.al hc).2, hy2.kid hc⟩
theorem MJ.fresh (I : MJ E H m ty fr nf na ak hd) (hE : EvOk E) {H' : Hp} {m' : Nat} {ty' : Nat → Nat} (hlt : m < m') (hold : ∀ v, v < m → H' v = H v ∧ ty' v = ty v) (hdead : ∀ v, m' ≤ v → H' v = (0, 0, 0, [])) (hb : ∀ i, m ≤ i → i < m' → (H' i).1 ≠ 0 ∧ LTm E (ty' i) (H' i) ((kds H' i).map ty') ∧ (kds H' i).Nodup ∧ E.2.1 (ty' i) ≤ 38 ∧ (∀ c, c ∈ kds H' i → i < c ∧ c < m') ∧ ∀ j, m ≤ j → j < m' → ∀ c, c ∈ kds H' i → c ∈ kds H' j → j = i) (h0 : hd 0 = none) (hcf : ∀ i, m ≤ i → i < m' → ty' i ≠ 11) : MJ E H' m' ty' fr nf na ak (fun i => if i = 0 then some m else hd i) := by
  refine (I.m0.fresh hE hlt hold hdead hb h0).mk (I.cp.mono (fun v h1 h2 => ?_) (Nat.le_refl _) I.cp.2)
  have hk : ∀ i c, m ≤ i → c ∈ kds H' i → m ≤ c ∧ i < m' := fun i c hi hc => by
    by_cases q : i < m'
    · have := (hb i hi q).2.2.2.2.1 c hc
      exact ⟨by omega, q⟩
    · rw [kds, hdead i (by omega)] at hc; exact absurd hc (by simp)
  rcases fresh_liv I.m0 (fun v hv => (hold v hv).1) (fun i c hi hc => (hk i c hi hc).1) (fun a d k X q => by
    rw [lv_hand] at q
    unfold upL at q
    by_cases c : a = 3 ∧ d = 0 ∧ k = 0
    · rw [if_pos c] at q; cases q; exact .inl (Nat.le_refl _)
    · rw [if_neg c] at q; exact .inr (Liv.root q)) h2 with q | ⟨q, q2⟩
  · have := (I.m0.fresh hE hlt hold hdead hb h0).lt ((I.m0.fresh hE hlt hold hdead hb h0).live h2)
    exact absurd h1 (hcf v q this)
  · rw [(hold v q).2] at h1
    exact ⟨h1, q2, by unfold am; rw [(hold v q).1]; exact Nat.le_refl _⟩
theorem MJ.pack (I : MJ E H m ty fr nf na ak hd) (hE : EvOk E) {cs : List Nat} {t k : Nat} {lo : Int64} (hc : ∀ c, c ∈ cs → ∃ i, hd i = some c) (hn : cs.Nodup) (hk : k ≠ 0) (ht : LTm E t (k, 0, lo, cs) (cs.map ty)) (hd40 : E.2.1 t ≤ 38) (h11 : t ≠ 11) : MJ E (upH H m (k, 0, lo, cs)) (m + 1) (fun i => if i = m then t else ty i) fr nf na ak (fun i => if i = 0 then some m else none) := by
  refine (I.m0.pack hE hc hn hk ht hd40).mk (I.cp.mono (fun v h1 h2 => ?_) (Nat.le_refl _) I.cp.2)
  have em : kds (upH H m (k, 0, lo, cs)) m = cs := by unfold kds; rw [upH_s]
  have ek : ∀ v, v ≠ m → kds (upH H m (k, 0, lo, cs)) v = kds H v := fun v q => by unfold kds; rw [upH_n q]
  have key := h2.ind (P := fun v => v = m ∨ (v ≠ m ∧ Liv H (LvA fr nf na ak hd) v)) (fun a d j X q => by
    have q' : LvA fr nf na ak (fun i => if i = 0 then some m else (fun _ => none) i) a d j = some X := q
    rw [lv_hand] at q'
    unfold upL at q'
    by_cases c : a = 3 ∧ d = 0 ∧ j = 0
    · rw [if_pos c] at q'; cases q'; exact .inl rfl
    · rw [if_neg c] at q'
      have := lv_none (hd := hd) q'
      exact .inr ⟨by have := I.lt (I.lva this.2); omega, Liv.root this.2⟩) (fun y c hy hc' => by
    rcases hy with hy | ⟨hy, hy2⟩
    · subst hy
      rw [em] at hc'
      obtain ⟨i, hi⟩ := hc c hc'
      have hl : LvA fr nf na ak hd 3 0 i = some c := by rw [lv3, if_pos rfl]; exact hi
      exact .inr ⟨by have := I.lt (I.lva hl); omega, Liv.root hl⟩
    · rw [ek y hy] at hc'
      exact .inr ⟨by have := I.lt (I.2.1.al hc').2; omega, hy2.kid hc'⟩)
  rcases key with q | ⟨q, q2⟩
  · simp only [if_pos q] at h1; exact absurd h1 h11
  · simp only [if_neg q] at h1
    exact ⟨h1, q2, by unfold am; rw [upH_n q]; exact Nat.le_refl _⟩
theorem MJ.write (I : MJ E H m ty fr nf na ak hd) (hE : EvOk E) {x N : Nat} (hx : hd 0 = some x) (hN : (H N).1 ≠ 0) (ht : ty N = ty x) (hxN : ¬ Sub H x N) (hsole : ∀ d s, RfA fr nf d s → Sub H N s.1 → s.1 = N) : MJ E (upH (upH H N (H x)) x (0, 0, 0, [])) m ty fr nf na ak (fun _ => none) := by
  have J := I.m0.write hE hx hN ht hxN hsole
  refine J.mk ?_
  have ne : N ≠ x := fun e => hxN (by rw [e]; exact Sub.refl H x)
  have eN : (upH (upH H N (H x)) x (0, 0, 0, [])) N = H x := by rw [upH_n ne, upH_s]
  have ex : (upH (upH H N (H x)) x (0, 0, 0, [])) x = (0, 0, 0, []) := upH_s _ _ _
  have eo : ∀ v, v ≠ N → v ≠ x → (upH (upH H N (H x)) x (0, 0, 0, [])) v = H v := fun v q q' => by rw [upH_n q', upH_n q]
  generalize upH (upH H N (H x)) x (0, 0, 0, []) = H' at eN ex eo J
  have hl : LvA fr nf na ak hd 3 0 0 = some x := by rw [lv3, if_pos rfl]; exact hx
  have nx : ∀ v, Liv H' (LvA fr nf na ak (fun _ => none)) v → v ≠ x := fun v hv e => by
    have := J.live hv
    rw [e, ex] at this
    exact this rfl
  have lm : ∀ v, Liv H' (LvA fr nf na ak (fun _ => none)) v → Liv H (LvA fr nf na ak hd) v := fun v hv => hv.ind (P := Liv H (LvA fr nf na ak hd)) (fun a d k X q => Liv.root (lv_none (hd := hd) q).2) (fun y c hy hc => by
    by_cases c1 : y = N
    · subst c1
      rw [kds, eN] at hc
      exact (Liv.root (H := H) hl).kid hc
    · by_cases c2 : y = x
      · subst c2; rw [kds, ex] at hc; exact absurd hc (by simp)
      · rw [kds, eo y c1 c2] at hc; exact hy.kid hc)
  refine I.cp.upd (fun v => if v = N then x else v) [] [] (by simp) (fun v hv => absurd hv (by simp)) (fun v h1 h2 _ => ?_) (by simp only [smL]; omega) I.cp.2
  by_cases c : v = N
  · subst c
    simp only [if_true]
    refine ⟨by rw [← ht]; exact h1, Liv.root hl, by unfold am; rw [eN]; exact Nat.le_refl _, by simp, fun w _ w2 _ e => ?_⟩
    by_cases c' : w = v
    · exact c'.symm
    · rw [if_neg c'] at e; exact absurd e.symm (nx w w2)
  · simp only [if_neg c]
    refine ⟨h1, lm v h2, by unfold am; rw [eo v c (nx v h2)]; exact Nat.le_refl _, by simp, fun w _ w2 _ e => ?_⟩
    by_cases c' : w = N
    · rw [if_pos c'] at e; exact absurd e (nx v h2)
    · rw [if_neg c'] at e; exact e
theorem MJ.parts (I : MJ E H m ty fr nf na ak hd) (hE : EvOk E) {N : Nat} {cs : List Nat} (hN : (H N).1 ≠ 0) (h2 : LTm E (ty N) (setC (H N) cs) (cs.map ty)) (hn : cs.Nodup) (hcs : ∀ c, c ∈ cs → c ∈ kds H N ∨ (∃ i, hd i = some c) ∧ ¬ Sub H c N) (hsole : ∀ d s, RfA fr nf d s → Sub H N s.1 → s.1 = N) : MJ E (upH H N (setC (H N) cs)) m ty fr nf na ak (fun _ => none) := by
  refine (I.m0.parts hE hN h2 hn hcs hsole).mk (I.cp.mono (fun v h1 h3 => ⟨h1, ?_, ?_⟩) (Nat.le_refl _) I.cp.2)
  · refine h3.ind (P := Liv H (LvA fr nf na ak hd)) (fun a d k X q => Liv.root (lv_none (hd := hd) q).2) (fun y c hy hc => ?_)
    by_cases c1 : y = N
    · subst c1
      rw [kds, upH_s] at hc
      rcases hcs c hc with q | ⟨⟨i, q⟩, _⟩
      · exact hy.kid q
      · exact Liv.root (show LvA fr nf na ak hd 3 0 i = some c by rw [lv3, if_pos rfl]; exact q)
    · rw [kds, upH_n c1] at hc; exact hy.kid hc
  · unfold am
    by_cases c1 : v = N
    · subst c1; rw [upH_s]; exact Nat.le_refl _
    · rw [upH_n c1]; exact Nat.le_refl _
theorem MJ.last (I : MJ E H m ty fr nf na ak hd) (hE : EvOk E) {N c : Nat} {cs : List Nat} (hN : (H N).1 ≠ 0) (hk : kds H N = cs ++ [c]) (h2 : LTm E (ty N) (setC (H N) cs) (cs.map ty)) (hsole : ∀ d s, RfA fr nf d s → Sub H N s.1 → s.1 = N) (hlv : Liv H (LvA fr nf na ak hd) N) : MJ E (upH H N (setC (H N) cs)) m ty fr nf na ak (fun i => if i = 0 then some c else none) := by
  refine (I.m0.last hE hN hk h2 hsole).mk (I.cp.mono (fun v h1 h3 => ⟨h1, ?_, ?_⟩) (Nat.le_refl _) I.cp.2)
  · refine h3.ind (P := Liv H (LvA fr nf na ak hd)) (fun a d k X q => ?_) (fun y b hy hb => ?_)
    · have q' : LvA fr nf na ak (fun i => if i = 0 then some c else (fun _ => none) i) a d k = some X := q
      rw [lv_hand] at q'
      unfold upL at q'
      by_cases c1 : a = 3 ∧ d = 0 ∧ k = 0
      · rw [if_pos c1] at q'; cases q'; exact hlv.kid (by rw [hk]; simp)
      · rw [if_neg c1] at q'; exact Liv.root (lv_none (hd := hd) q').2
    · by_cases c1 : y = N
      · subst c1
        rw [kds, upH_s] at hb
        exact hy.kid (by rw [hk]; exact List.mem_append.mpr (.inl hb))
      · rw [kds, upH_n c1] at hb; exact hy.kid hb
  · unfold am
    by_cases c1 : v = N
    · subst c1; rw [upH_s]; exact Nat.le_refl _
    · rw [upH_n c1]; exact Nat.le_refl _
theorem MJ.swap (I : MJ E H m ty fr nf na ak hd) (hE : EvOk E) {N p q : Nat} (hp : p ∈ kds H N) (hq : q ∈ kds H N) (ht : ty p = ty q) (hsole : ∀ d s, RfA fr nf d s → Sub H N s.1 → s.1 = N) : MJ E (upH (upH H p (H q)) q (H p)) m ty fr nf na ak hd := by
  have J := I.m0.swap hE hp hq ht hsole
  refine J.mk ?_
  have eq : (upH (upH H p (H q)) q (H p)) q = H p := upH_s _ _ _
  have ep : (upH (upH H p (H q)) q (H p)) p = H q := by
    by_cases c : p = q
    · subst c; rw [upH_s]
    · rw [upH_n c, upH_s]
  have eo : ∀ v, v ≠ p → v ≠ q → (upH (upH H p (H q)) q (H p)) v = H v := fun v a b => by rw [upH_n b, upH_n a]
  generalize upH (upH H p (H q)) q (H p) = H' at eq ep eo J
  have up : ∀ c, c ∈ kds H N → Liv H (LvA fr nf na ak hd) c → Liv H (LvA fr nf na ak hd) N := by
    intro c hc ⟨a, d, k, X, hX, hs⟩
    rcases hs.last with e | ⟨y, y1, y2⟩
    · exact absurd (by rw [e]; exact hc) (I.1.2.1 _ _ _ _ hX N)
    · rw [I.1.1.1 y N c y2 hc] at y1
      exact ⟨a, d, k, X, hX, y1⟩
  have pq : Liv H (LvA fr nf na ak hd) p ↔ Liv H (LvA fr nf na ak hd) q := ⟨fun h => (up p hp h).kid hq, fun h => (up q hq h).kid hp⟩
  have lm : ∀ v, Liv H' (LvA fr nf na ak hd) v → Liv H (LvA fr nf na ak hd) v := fun v hv => hv.ind (P := Liv H (LvA fr nf na ak hd)) (fun a d k X q => Liv.root q) (fun y c hy hc => by
    by_cases c1 : y = p
    · subst c1; rw [kds, ep] at hc; exact (pq.mp hy).kid hc
    · by_cases c2 : y = q
      · subst c2; rw [kds, eq] at hc; exact (pq.mpr hy).kid hc
      · rw [kds, eo y c1 c2] at hc; exact hy.kid hc)
  refine I.cp.upd (fun v => if v = p then q else if v = q then p else v) [] [] (by simp) (fun v hv => absurd hv (by simp)) (fun v h1 h2 _ => ⟨?_, ?_, ?_, by simp, fun w _ _ _ e => ?_⟩) (by simp only [smL]; omega) I.cp.2
  · by_cases c1 : v = p
    · simp only [if_pos c1]; rw [← ht, ← c1]; exact h1
    · by_cases c2 : v = q
      · simp only [if_neg c1, if_pos c2]; rw [ht, ← c2]; exact h1
      · simp only [if_neg c1, if_neg c2]; exact h1
  · by_cases c1 : v = p
    · simp only [if_pos c1]; rw [c1] at h2; exact pq.mp (lm p h2)
    · by_cases c2 : v = q
      · simp only [if_neg c1, if_pos c2]; rw [c2] at h2; exact pq.mpr (lm q h2)
      · simp only [if_neg c1, if_neg c2]; exact lm v h2
  · by_cases c1 : v = p
    · simp only [if_pos c1]; unfold am; rw [c1, ep]; exact Nat.le_refl _
    · by_cases c2 : v = q
      · simp only [if_neg c1, if_pos c2]; unfold am; rw [c2, eq]; exact Nat.le_refl _
      · simp only [if_neg c1, if_neg c2]; unfold am; rw [eo v c1 c2]; exact Nat.le_refl _
  · by_cases c1 : v = p
    · simp only [if_pos c1] at e
      by_cases c3 : w = p
      · rw [c1, c3]
      · rw [if_neg c3] at e
        by_cases c4 : w = q
        · rw [if_pos c4] at e; rw [c1, c4, e]
        · rw [if_neg c4] at e; exact absurd e.symm c4
    · simp only [if_neg c1] at e
      by_cases c2 : v = q
      · rw [if_pos c2] at e
        by_cases c3 : w = p
        · rw [if_pos c3] at e; rw [c2, c3, e]
        · rw [if_neg c3] at e
          by_cases c4 : w = q
          · rw [c2, c4]
          · rw [if_neg c4] at e; exact absurd e.symm c3
      · rw [if_neg c2] at e
        by_cases c3 : w = p
        · rw [if_pos c3] at e; exact absurd e c2
        · rw [if_neg c3] at e
          by_cases c4 : w = q
          · rw [if_pos c4] at e; exact absurd e c1
          · rw [if_neg c4] at e; exact e
theorem MJ.unpack (I : MJ E H m ty fr nf na ak hd) (hE : EvOk E) {x : Nat} (hx : hd 0 = some x) : MJ E (upH H x (0, 0, 0, [])) m ty fr nf na ak (fun i => (kds H x)[i]?) := by
  have J := I.m0.unpack hE hx
  refine J.mk (I.cp.mono (fun v h1 h2 => ⟨h1, ?_, ?_⟩) (Nat.le_refl _) I.cp.2)
  · refine h2.ind (P := Liv H (LvA fr nf na ak hd)) (fun a d k X q => ?_) (fun y c hy hc => ?_)
    · by_cases c3 : a = 3
      · subst c3
        rw [lv3] at q
        by_cases cd : d = 0
        · rw [if_pos cd] at q
          exact (Liv.root (H := H) (show LvA fr nf na ak hd 3 0 0 = some x by rw [lv3, if_pos rfl]; exact hx)).kid (List.mem_of_getElem? q)
        · rw [if_neg cd] at q; exact absurd q (by simp)
      · refine Liv.root (a := a) (d := d) (k := k) ?_
        rw [← q]
        unfold LvA
        split
        · rfl
        · split
          · rfl
          · split
            · rfl
            · rw [if_neg (fun r => c3 r.1), if_neg (fun r => c3 r.1)]
    · by_cases c1 : y = x
      · subst c1; rw [kds, upH_s] at hc; exact absurd hc (by simp)
      · rw [kds, upH_n c1] at hc; exact hy.kid hc
  · have := J.live h2
    by_cases c1 : v = x
    · subst c1; rw [upH_s] at this; exact absurd rfl this
    · unfold am; rw [upH_n c1]; exact Nat.le_refl _
theorem MJ.ask (I : MJ E H m ty fr nf na ak hd) (na' : Nat) (ak' : Nat → Ask) (hd' : Nat → Option Nat) (ρ : Nat → Nat → Nat → Nat × Nat × Nat) (cρ : ∀ a d k, a ≤ 1 → ρ a d k = (a, d, k)) (c2 : ∀ k, k < na' → (ak' k).1 = 3 → (ak' k).2.2.2.2.1 = true → ∃ a0 d0 k0, LvA fr nf na ak hd a0 d0 k0 = some (ak' k).2.2.2.2.2 ∧ ρ a0 d0 k0 = (2, 0, k)) (c3 : ∀ k X, hd' k = some X → ∃ a0 d0 k0, LvA fr nf na ak hd a0 d0 k0 = some X ∧ ρ a0 d0 k0 = (3, 0, k)) (c5 : ∀ k, k < na → (ak k).1 = 3 → (ak k).2.2.2.2.1 = true → (k < na' ∧ (ak' k).1 = 3 ∧ (ak' k).2.2.2.2.1 = true ∧ (ak' k).2.2.2.2.2 = (ak k).2.2.2.2.2) ∨ ∀ e s, RfA fr nf e s → ¬ Sub H (ak k).2.2.2.2.2 s.1) (hna : na ≤ na') (ckd : ∀ k, k < na → (ak' k).2.2.1 = (ak k).2.2.1) (ct : ∀ k, k < na' → (ak' k).1 = 3 → (ak' k).2.2.2.2.1 = true → ty (ak' k).2.2.2.2.2 = 256 + (ak' k).2.2.1) (hbs : bS ak' na' + lS E ak na ≤ bS ak na + lS E ak' na') (hac : AcOk E na' ak') : MJ E H m ty fr nf na' ak' hd' := by
  refine (I.m0.ask na' ak' hd' ρ cρ c2 c3 c5 hna ckd ct).mk (I.cp.mono (fun v h1 h2 => ⟨h1, ?_, Nat.le_refl _⟩) hbs hac)
  refine h2.ind (P := Liv H (LvA fr nf na ak hd)) (fun a d k X q => ?_) (fun y c hy hc => hy.kid hc)
  have a4 := lv4 q
  by_cases c1 : a ≤ 1
  · have e : LvA fr nf na' ak' hd' a d k = LvA fr nf na ak hd a d k := by
      by_cases c : a = 0
      · subst c; rfl
      · have : a = 1 := by omega
        subst this; rfl
    rw [e] at q
    exact Liv.root q
  · by_cases c2' : a = 2
    · subst c2'
      rw [lv2] at q
      by_cases cc : d = 0 ∧ k < na' ∧ (ak' k).1 = 3 ∧ (ak' k).2.2.2.2.1 = true
      · rw [if_pos cc] at q; cases q
        obtain ⟨a0, d0, k0, h, _⟩ := c2 k cc.2.1 cc.2.2.1 cc.2.2.2
        exact Liv.root h
      · rw [if_neg cc] at q; exact absurd q (by simp)
    · have e3 : a = 3 := by omega
      subst e3
      rw [lv3] at q
      by_cases cc : d = 0
      · rw [if_pos cc] at q
        obtain ⟨a0, d0, k0, h, _⟩ := c3 k X q
        exact Liv.root h
      · rw [if_neg cc] at q; exact absurd q (by simp)
theorem MJ.call (I : MJ E H m ty fr nf na ak (fun _ => none)) {n u' f' nx : Nat} (ps : Nat → Sl) (hn : n ≤ (fr (nf - 1)).2.2.1.1) (hn8 : n ≤ 8) (hp : ∀ k, k < n → (ps k).1 = ((fr (nf - 1)).2.2.1.2 ((fr (nf - 1)).2.2.1.1 - n + k)).1 ∧ (ps k).2.1 = ((fr (nf - 1)).2.2.1.2 ((fr (nf - 1)).2.2.1.1 - n + k)).2.1 ∧ (ps k).2.2.1 = ((fr (nf - 1)).2.2.1.2 ((fr (nf - 1)).2.2.1.1 - n + k)).2.2.1 ∧ ((ps k).2.1 ≠ 0 → ob (ps k).2.2.2.1 (40 + k) = true))
    (h6 : ∀ k, k < n → ((fr (nf - 1)).2.2.1.2 ((fr (nf - 1)).2.2.1.1 - n + k)).2.1 = 9 → (∀ s, s.2.1 ≠ 0 → ((∃ j, j < (fr (nf - 1)).2.2.1.1 - n ∧ (fr (nf - 1)).2.2.1.2 j = s) ∨ ∃ j, (fr (nf - 1)).2.1 j = some s) → mt s.2.2.2.1 ((fr (nf - 1)).2.2.1.2 ((fr (nf - 1)).2.2.1.1 - n + k)).2.2.2.1 → s.2.1 = 9 ∧ s.2.2.2.2 = false) ∧ ∀ j, j < n → j ≠ k → ((fr (nf - 1)).2.2.1.2 ((fr (nf - 1)).2.2.1.1 - n + j)).2.1 ≠ 0 → ¬ mt ((fr (nf - 1)).2.2.1.2 ((fr (nf - 1)).2.2.1.1 - n + j)).2.2.2.1 ((fr (nf - 1)).2.2.1.2 ((fr (nf - 1)).2.2.1.1 - n + k)).2.2.2.1)
    (h8 : E.2.2.1 u' f' = true → E.2.2.1 (fr (nf - 1)).1.1 (fr (nf - 1)).1.2.1 = true ∧ ∀ s, RfA fr nf (nf - 1) s → ∀ b, 48 ≤ b → ob s.2.2.2.1 b = false) :
    MJ E H m ty (setF (setF fr (nf - 1) (((fr (nf - 1)).1.1, (fr (nf - 1)).1.2.1, nx), (fr (nf - 1)).2.1, ((fr (nf - 1)).2.2.1.1 - n, (fr (nf - 1)).2.2.1.2), fun k => if k < n ∧ ((fr (nf - 1)).2.2.1.2 ((fr (nf - 1)).2.2.1.1 - n + k)).2.1 ≠ 0 then some ((fr (nf - 1)).2.2.1.2 ((fr (nf - 1)).2.2.1.1 - n + k)) else none)) nf ((u', f', 0), (fun k => if k < n then some (ps k) else none), (0, fun _ => (0, 0, 0, 0, false)), fun _ => none)) (nf + 1) na ak (fun _ => none) := by
  have hnf := I.nf0
  have top : nf - 1 < nf := by omega
  refine (I.m0.call ps hn hn8 hp h6 h8).mk (I.cp.roots (fun a d k X q => ?_))
  generalize eT : fr (nf - 1) = T at *
  obtain ⟨⟨u, f, nx0⟩, loc, ⟨h, st⟩, gh0⟩ := T
  simp only at *
  generalize eA : (((u, f, nx), loc, (h - n, st), fun k => if k < n ∧ (st (h - n + k)).2.1 ≠ 0 then some (st (h - n + k)) else none) : Fm) = A at q
  generalize eB : (((u', f', 0), (fun k => if k < n then some (ps k) else none), (0, fun _ => (0, 0, 0, 0, false)), fun _ => none) : Fm) = B at q
  have fo : ∀ e, e ≠ nf - 1 → e ≠ nf → setF (setF fr (nf - 1) A) nf B e = fr e := fun e q q' => by rw [setF_n q', setF_n q]
  have fA : setF (setF fr (nf - 1) A) nf B (nf - 1) = A := by rw [setF_n (by omega), setF_s]
  have fB : setF (setF fr (nf - 1) A) nf B nf = B := setF_s _ _ _
  generalize setF (setF fr (nf - 1) A) nf B = fr' at fo fA fB q
  have a3 : A.2.1 = loc := by rw [← eA]
  have a4 : A.2.2.1 = (h - n, st) := by rw [← eA]
  have b3 : ∀ k, B.2.1 k = if k < n then some (ps k) else none := fun k => by rw [← eB]
  have b4 : B.2.2.1.1 = 0 := by rw [← eB]
  clear eA eB
  have e10 : (fr (nf - 1)).2.2.1.1 = h := by rw [eT]
  have e11 : (fr (nf - 1)).2.2.1.2 = st := by rw [eT]
  have e12 : (fr (nf - 1)).2.1 = loc := by rw [eT]
  have a4' := lv4 q
  by_cases c0 : a = 0
  · subst c0
    rw [lv0] at q
    by_cases cd : d < nf + 1 ∧ k < (fr' d).2.2.1.1
    · rw [if_pos cd] at q
      by_cases c1 : d = nf
      · rw [c1, fB, b4] at cd; exact absurd cd.2 (by omega)
      · by_cases c2 : d = nf - 1
        · rw [c2, fA, a4] at cd q
          simp only at cd q
          exact Liv.root (a := 0) (d := nf - 1) (k := k) (by rw [lv0, if_pos ⟨top, by rw [e10]; omega⟩, e11]; exact q)
        · rw [fo d c2 c1] at cd q
          exact Liv.root (a := 0) (d := d) (k := k) (by rw [lv0, if_pos ⟨by omega, cd.2⟩]; exact q)
    · rw [if_neg cd] at q; exact absurd q (by simp)
  · by_cases c1 : a = 1
    · subst c1
      rw [lv1] at q
      by_cases cd : d < nf + 1
      · rw [if_pos cd] at q
        by_cases c1 : d = nf
        · rw [c1, fB, b3] at q
          by_cases ck : k < n
          · rw [if_pos ck, Option.bind_some] at q
            obtain ⟨p1, p2⟩ := pln_e q
            obtain ⟨q1, q2, _, _⟩ := hp k ck
            exact Liv.root (a := 0) (d := nf - 1) (k := h - n + k) (by rw [lv0, if_pos ⟨top, by rw [e10]; omega⟩, e11, pln0 (by rw [← q2]; exact p1), ← q1, p2])
          · rw [if_neg ck] at q; exact absurd q (by simp)
        · by_cases c2 : d = nf - 1
          · rw [c2, fA, a3] at q
            exact Liv.root (a := 1) (d := nf - 1) (k := k) (by rw [lv1, if_pos top, e12]; exact q)
          · rw [fo d c2 c1] at q
            exact Liv.root (a := 1) (d := d) (k := k) (by rw [lv1, if_pos (by omega)]; exact q)
      · rw [if_neg cd] at q; exact absurd q (by simp)
    · by_cases c2 : a = 2
      · subst c2
        exact Liv.root (a := 2) (d := d) (k := k) q
      · have : a = 3 := by omega
        subst this
        rw [lv3] at q
        split at q <;> exact absurd q (by simp)
theorem MJ.ret (I : MJ E H m ty fr nf na ak (fun _ => none)) (h2 : 2 ≤ nf) {nx : Nat} (rl : Nat → Sl)
    (hp : ∀ k, k < (fr (nf - 1)).2.2.1.1 → (rl k).1 = ((fr (nf - 1)).2.2.1.2 k).1 ∧ (rl k).2.1 = ((fr (nf - 1)).2.2.1.2 k).2.1 ∧ (rl k).2.2.1 = ((fr (nf - 1)).2.2.1.2 k).2.2.1 ∧ ((rl k).2.1 ≠ 0 → (rl k).2.2.2.2 = true ∧ (∀ b, ob ((fr (nf - 1)).2.2.1.2 k).2.2.2.1 b = true → 40 ≤ b ∧ b < 48) ∧ ∀ j g, (fr (nf - 2)).2.2.2 j = some g → ((rl k).2.1 = 9 → g.2.1 = 9) → ∀ b, ob g.2.2.2.1 b = true → ob (rl k).2.2.2.1 b = true)) :
    MJ E H m ty (setF fr (nf - 2) (((fr (nf - 2)).1.1, (fr (nf - 2)).1.2.1, nx), (fr (nf - 2)).2.1, ((fr (nf - 2)).2.2.1.1 + (fr (nf - 1)).2.2.1.1, fun k => if k < (fr (nf - 2)).2.2.1.1 then (fr (nf - 2)).2.2.1.2 k else rl (k - (fr (nf - 2)).2.2.1.1)), fun _ => none)) (nf - 1) na ak (fun _ => none) := by
  have top : nf - 1 < nf := by omega
  have tp2 : nf - 2 < nf := by omega
  refine (I.m0.ret h2 rl hp).mk (I.cp.roots (fun a d k X q => ?_))
  generalize eT : fr (nf - 1) = T at *
  obtain ⟨⟨u, f, nx0⟩, loc, ⟨h, st⟩, gh0⟩ := T
  generalize eC : fr (nf - 2) = C at *
  obtain ⟨⟨u', f', nx1⟩, loc', ⟨h', st'⟩, gh'⟩ := C
  simp only at *
  generalize eA : (((u', f', nx), loc', (h' + h, fun k => if k < h' then st' k else rl (k - h')), fun _ => none) : Fm) = A at q
  have fo : ∀ e, e ≠ nf - 2 → setF fr (nf - 2) A e = fr e := fun e q => setF_n q
  have fA : setF fr (nf - 2) A (nf - 2) = A := setF_s _ _ _
  generalize setF fr (nf - 2) A = fr' at fo fA q
  have a3 : A.2.1 = loc' := by rw [← eA]
  have a4 : A.2.2.1.1 = h' + h := by rw [← eA]
  have a6 : ∀ k, A.2.2.1.2 k = if k < h' then st' k else rl (k - h') := fun k => by rw [← eA]
  clear eA
  have a4' := lv4 q
  by_cases c0 : a = 0
  · subst c0
    rw [lv0] at q
    by_cases cd : d < nf - 1 ∧ k < (fr' d).2.2.1.1
    · rw [if_pos cd] at q
      by_cases c2 : d = nf - 2
      · rw [c2, fA, a4] at cd
        rw [c2, fA, a6] at q
        by_cases ck : k < h'
        · rw [if_pos ck] at q
          exact Liv.root (a := 0) (d := nf - 2) (k := k) (by rw [lv0, eC, if_pos ⟨tp2, ck⟩]; exact q)
        · rw [if_neg ck] at q
          obtain ⟨p1, p2⟩ := pln_e q
          obtain ⟨q1, q2, _, _⟩ := hp (k - h') (by omega)
          exact Liv.root (a := 0) (d := nf - 1) (k := k - h') (by rw [lv0, eT, if_pos ⟨top, by simp only; omega⟩, pln0 (by rw [← q2]; exact p1), ← q1, p2])
      · rw [fo d c2] at cd q
        exact Liv.root (a := 0) (d := d) (k := k) (by rw [lv0, if_pos ⟨by omega, cd.2⟩]; exact q)
    · rw [if_neg cd] at q; exact absurd q (by simp)
  · by_cases c1 : a = 1
    · subst c1
      rw [lv1] at q
      by_cases cd : d < nf - 1
      · rw [if_pos cd] at q
        refine Liv.root (a := 1) (d := d) (k := k) ?_
        rw [lv1, if_pos (by omega)]
        by_cases c2 : d = nf - 2
        · rw [c2, fA, a3] at q
          rw [c2, eC]; exact q
        · rw [fo d c2] at q; exact q
      · rw [if_neg cd] at q; exact absurd q (by simp)
    · by_cases c2 : a = 2
      · subst c2; exact Liv.root (a := 2) (d := d) (k := k) q
      · have : a = 3 := by omega
        subst this
        rw [lv3] at q
        split at q <;> exact absurd q (by simp)
end
