/-! BOTH LEDGERS: places are asked for -/
theorem fd_cong {f g : Nat → Bool} : ∀ r p, (∀ i, p ≤ i → i < p + r → f i = g i) → fd f r p = fd g r p := by
  intro r
  induction r with
  | zero => intro p _; rfl
  | succ r ih =>
    intro p h
    rw [fd_1, fd_1, h p (by omega) (by omega), ih (p + 1) (fun i a b => h i (by omega) (by omega))]
/-- a kept tree with its types -/
def TyQ (E : Ev) (Q : Hp) (sz : Nat) (tq : Nat → Nat) : Prop := ∀ i, i < sz → (Q i).1 ≠ 0 ∧ LTm E (tq i) (Q i) ((kds Q i).map tq) ∧ (kds Q i).Nodup ∧ E.2.1 (tq i) ≤ 38 ∧ tq i ≠ 2 ^ 32 + 11 ∧ (∀ c, c ∈ kds Q i → i < c ∧ c < sz) ∧ (∀ j, j < sz → ∀ c, c ∈ kds Q i → c ∈ kds Q j → j = i) ∧ (0 < i → ∃ j, j < i ∧ i ∈ kds Q j)
/-- a resource of both sides -/
def ResR (E : Ev) (SF : Nat → List Nat) (Q : Hp) (sz k : Nat) (En : List Ent) : Prop := ∃ d tq, TyE SF d En ∧ d ≤ 40 ∧ 0 < sz ∧ sz ≤ 64 ∧ TyQ E Q sz tq ∧ tq 0 = 256 + k ∧ ∀ Hx v, Enc Hx d v En → ∃ M : Nat → Nat → Prop, M 0 v ∧ ∀ p j, p < sz → tq p ≠ 11 → M p j → v ≤ j ∧ j < v + En.length ∧ NdM Q tq Hx M p j
/-- resources of both sides -/
def RsR (E : Ev) (SF : Nat → List Nat) (nr : Nat) (rs : Nat → Int64 × Nat × Hp × Nat) (so : Nat → Option Rsc) : Prop := ∀ a k, k < 2 ^ 24 → (fdR nr rs a k = none → fdS so a k = none) ∧ ∀ i, fdR nr rs a k = some i → ∃ r x, fdS so a k = some r ∧ so r = some x ∧ ResR E SF (rs i).2.2.1 (rs i).2.2.2 k x.2.2
/-- what a kept tree holds of coins -/
def qS (Q : Hp) (tq : Nat → Nat) (sz : Nat) : Nat := sN (fun v => if tq v = 11 then am Q v else 0) sz
/-- the coins that places had are counted in E -/
def LdE (E : Ev) (sd : Int64) (nc : Nat) (ac : Nat → Int64 × Int64 × Int64) (nr : Nat) (rs : Nat → Int64 × Nat × Hp × Nat) : Prop := (∀ a, a ≠ sd → N (acB nc ac a) ≤ E.2.2.2.2 1 a 0) ∧ (∀ a k i tq, fdR nr rs a k = some i → TyQ E (rs i).2.2.1 (rs i).2.2.2 tq → tq 0 = 256 + k → qS (rs i).2.2.1 tq (rs i).2.2.2 ≤ E.2.2.2.2 3 a k) ∧ ∀ a, E.2.2.2.2 4 a 0 ≠ 0 → acT nc ac a = true
/-- accounts: alike but for what the sender was charged -/
def LgR (E : Ev) (SF : Nat → List Nat) (sd : Int64) (nc : Nat) (ac acC : Nat → Int64 × Int64 × Int64) (nr : Nat) (rs : Nat → Int64 × Nat × Hp × Nat) (so : Nat → Option Rsc) (ws : Nat → Int64 → Nat → Bool) : Prop := (∀ i, i < nc → (acC i).1 = (ac i).1 ∧ ((ac i).1 ≠ sd → (acC i).2.1 = (ac i).2.1)) ∧ RsR E SF nr rs so ∧ (∀ x : Ask, ws x.1 x.2.1 x.2.2.1 = wasT nc ac nr rs x) ∧ LdE E sd nc ac nr rs
section
variable {E : Ev} {F n : Nat} {sh : Nat → Nat × Nat} {pk : Nat → Nat} {kt : Nat} {sl0 : Int32} {lim e : Nat} {zr zc zr' zc' : St} {H : Hp} {m : Nat} {ty : Nat → Nat} {fr : Nat → Fm} {nf na : Nat} {ak : Nat → Ask} {g g' : Nat} {Hc : Hp} {mc : Nat} {phi : Nat → Nat} {Rn : Nat → Option Nat} {cs cl : Nat → Nat → Nat} {cn : Nat → Nat} {ws : Nat → Int64 → Nat → Bool}
variable {SF : Nat → List Nat} {sd : Int64} {nc nr nrc : Nat} {ac acC : Nat → Int64 × Int64 × Int64} {rs : Nat → Int64 × Nat × Hp × Nat} {so : Nat → Option Rsc}
theorem LgR.acT (h : LgR E SF sd nc ac acC nr rs so ws) (a : Int64) : fdA nc acC a = fdA nc ac a := fd_cong nc 0 (fun i _ b => by rw [(h.1 i (by omega)).1])
theorem LgR.acB (h : LgR E SF sd nc ac acC nr rs so ws) {a : Int64} (ha : a ≠ sd) : acB nc acC a = acB nc ac a ∧ _root_.Jvm.Pilot.CResourceLedgerLaw_law_r8937_d13e27.acT nc acC a = _root_.Jvm.Pilot.CResourceLedgerLaw_law_r8937_d13e27.acT nc ac a := by
  have e := h.acT a
  constructor
  · unfold _root_.Jvm.Pilot.CResourceLedgerLaw_law_r8937_d13e27.acB
    rw [e]
    cases q : fdA nc ac a with
    | none => rfl
    | some i =>
      have hi := fd_lt nc 0 i q
      have p : (ac i).1 = a := by simpa using hi.2.2
      exact (h.1 i (by omega)).2 (by rw [p]; exact ha)
  · unfold _root_.Jvm.Pilot.CResourceLedgerLaw_law_r8937_d13e27.acT
    rw [e]
theorem LgR.w1 (h : LgR E SF sd nc ac acC nr rs so ws) (a : Int64) : ws 1 a 0 = _root_.Jvm.Pilot.CResourceLedgerLaw_law_r8937_d13e27.acT nc acC a := by
  have e := h.2.2.1 (1, a, 0, 0, false, 0)
  unfold _root_.Jvm.Pilot.CResourceLedgerLaw_law_r8937_d13e27.acT
  rw [h.acT a]
  exact e
theorem LgR.w3n (h : LgR E SF sd nc ac acC nr rs so ws) {a : Int64} {k : Nat} (q : fdR nr rs a k = none) : ws 3 a k = false := by
  have e : ws 3 a k = (fdR nr rs a k).isSome := h.2.2.1 (3, a, k, 0, false, 0)
  rw [e, q]; rfl
theorem LgR.w3s (h : LgR E SF sd nc ac acC nr rs so ws) {a : Int64} {k i : Nat} (q : fdR nr rs a k = some i) : ws 3 a k = true := by
  have e : ws 3 a k = (fdR nr rs a k).isSome := h.2.2.1 (3, a, k, 0, false, 0)
  rw [e, q]; rfl
/-- the places' own facts go with asking -/
theorem Sm.akb (h : Sm E sh n pk kt sl0 lim e zr zc H m ty fr nf na ak g Hc mc phi Rn cs cl cn ws) : AkB na ak := fun j hj => by
  have k := (h.2.2.2.1.2.2 j hj).1
  have := k.b
  rcases k with ⟨a, b⟩ | ⟨a, b, _⟩ | ⟨a, b⟩ <;> omega
/-- a place is asked for that needs no tree -/
theorem Sm.ask0 (h : Sm E sh n pk kt sl0 lim e zr zc H m ty fr nf na ak g Hc mc phi Rn cs cl cn ws) {x : Ask} {c : Nat} (hx : ¬ (x.1 = 3 ∧ x.2.2.2.2.1 = true)) (hub : ubA x ≤ ldA E x) (hac : x.1 = 1 → E.2.2.2.2 4 x.2.1 0 ≠ 0 → x.2.2.2.2.1 = true) (rm : RM sh n zr' H m fr nf (na + 1) (upA ak na x) g lim) (cj : CJ zc' (na + 1) (upA ak na x) (fun e => if e = na then c else cn e) ws) (f : FrJ zc zc') (fk : ∀ k, k < 104 ∨ 112 < k → zc'.1 k = zc.1 k ∧ zc'.2.1 k = zc.2.1 k) : Sm E sh n pk kt sl0 lim e zr' zc' H m ty fr nf (na + 1) (upA ak na x) g Hc mc phi Rn cs cl (fun e => if e = na then c else cn e) ws := by
  obtain ⟨I, _, cm0, _, r, sr, an, na2, rn, rm1, rm2⟩ := h
  refine ⟨I.newE x hx hub hac, rm, cm0.jr f (cm0.2.1.mv (fun k a b => fk k (by omega))), cj, r, sr, fun j hj h3 ht => ?_, na2, rn, by omega, by omega⟩
  by_cases q : j = na
  · subst q
    rw [upA_s] at h3 ht
    exact absurd ⟨h3, ht⟩ hx
  · simp only [if_neg q]
    rw [upA_n q] at h3 ht ⊢
    exact an j (by omega) h3 ht
/-- what asking comes to on both sides -/
theorem Sm.ask (hF : 300 ≤ F) (h : Sm E sh n pk kt sl0 lim e zr zc H m ty fr nf na ak g Hc mc phi Rn cs cl cn ws) (hE : EvOk E) (hA : EvA E) (rl : RLg zr nc ac nr rs) (cg : CLg zc nc acC nrc so) (lg : LgR E SF sd nc ac acC nr rs so ws) (h0 : 0 < na ∧ (ak 0).1 = 1 ∧ (ak 0).2.1 = sd) {s k : Nat} {a : Int64} (hk : KyOk s a k) : (∃ zr', fn_X18_ask F sh n zr 337 (nI s) a (nI k) = some (zr', -1) ∧ fn_X2_ask F sh n zc 104 (nI s) (ckA s a) (nI (ckM s a k)) (nI (ckS s k)) = some (zc, -1) ∧ RE sh n zr' 2 4 g ∧ FrR zr zr') ∨ ∃ zr' zc' j H' m' ty' na' ak' Hc' mc' phi' cn', fn_X18_ask F sh n zr 337 (nI s) a (nI k) = some (zr', nI j) ∧ fn_X2_ask F sh n zc 104 (nI s) (ckA s a) (nI (ckM s a k)) (nI (ckS s k)) = some (zc', nI j) ∧ Sm E sh n pk kt sl0 lim e zr' zc' H' m' ty' fr nf na' ak' g Hc' mc' phi' Rn cs cl cn' ws ∧ FrR zr zr' ∧ FrJ zc zc' ∧ j < na' ∧ (ak' j).1 = s ∧ (ak' j).2.1 = a ∧ (ak' j).2.2.1 = k ∧ na ≤ na' ∧ (∀ i, i < na → ak' i = ak i) ∧ (∀ i, i < m → H' i = H i ∧ ty' i = ty i ∧ phi' i = phi i) ∧ ∀ fr2, MJ E H m ty fr2 nf na ak (fun _ => none) → MJ E H' m' ty' fr2 nf na' ak' (fun _ => none) := by
  have rr := h.rooms
  have n24 := h.2.2.2.1.2.1
  have kb := hk.b
  have nw : Nw H m := ⟨h.pu, fun i c hc => (h.ht.al hc).2, fun i hi => h.ht.1 i (by
    by_cases q : (H i).1 = 0
    · exact q
    · have := (h.ht.2 i q).1; omega)⟩
  have k31 : k < 2 ^ 31 := by rcases hk with ⟨_, q⟩ | ⟨_, q, _⟩ | ⟨_, q⟩ <;> omega
  cases q : fdK na ak s a k na 0 with
  | some j =>
    have hj := fd_lt na 0 j q
    have pj : (ak j).1 = s ∧ (ak j).2.1 = a ∧ (ak j).2.2.1 = k := by simpa using hj.2.2
    exact .inr ⟨zr, zc, j, H, m, ty, na, ak, Hc, mc, phi, cn, h.2.1.askF hF h.akb (by omega) k31 q, cask_f hF h.2.2.1.1 h.2.2.2.1 hk q, h, FrR.rfl', FrJ.rfl', by omega, pj.1, pj.2.1, pj.2.2, Nat.le_refl _, fun _ _ => rfl, fun _ _ => ⟨rfl, rfl, rfl⟩, fun _ I2 => I2⟩
  | none =>
    by_cases c24 : na = 24
    · obtain ⟨z1, q1, q2, q3⟩ := h.2.1.askE (F := F) hF h.akb (by omega) k31 q c24
      exact .inl ⟨z1, q1, cask_n hF h.2.2.1.1 h.2.2.2.1 hk q c24, q2, q3⟩
    · right
      have hn : na < 24 := by omega
      have new : ∀ x : Ask, ∀ i, i < na → upA ak na x i = ak i := fun x i hi => upA_n (by omega)
      rcases hk with ⟨e1, e2⟩ | ⟨e1, e2, e3⟩ | ⟨e1, e2⟩
      · subst e1; subst e2
        have ne : a ≠ sd := fun w => by
          have hq : ∀ r p, p ≤ 0 → 0 < p + r → fd (fun j => decide ((ak j).1 = 1) && (decide ((ak j).2.1 = a) && decide ((ak j).2.2.1 = 0))) r p ≠ none := fun r p hp hr => by
            have : p = 0 := by omega
            subst this
            obtain ⟨r', rfl⟩ : ∃ y, r = y + 1 := ⟨r - 1, by omega⟩
            rw [fd_1]
            have k0 : (ak 0).2.2.1 = 0 := by
              rcases (h.2.2.2.1.2.2 0 h0.1).1 with y | y | y
              · exact y.2
              · have := h0.2.1; omega
              · have := h0.2.1; omega
            rw [if_pos (by simp [h0.2.1, h0.2.2, w, k0])]
            simp
          exact hq na 0 (Nat.le_refl _) (by omega) q
        obtain ⟨b1, b2⟩ := lg.acB ne
        obtain ⟨z1, q1, q2, q3⟩ := h.2.1.ask1 (F := F) hF rl h.akb q hn
        obtain ⟨z2, d1, d2, d3, d4⟩ := cask_1 (F := F) hF h.2.2.1.1 h.2.2.2.1 cg q hn (lg.w1 a)
        rw [b1, b2] at d2
        exact ⟨z1, z2, na, H, m, ty, na + 1, _, Hc, mc, phi, _, q1, d1, h.ask0 (by simp) (by exact lg.2.2.2.1 a ne) (by exact fun _ w => lg.2.2.2.2.2 a w) q2 d2 d3 d4, q3, d3, by omega, by rw [upA_s], by rw [upA_s], by rw [upA_s], by omega, new _, fun _ _ => ⟨rfl, rfl, rfl⟩, fun _ I2 => I2.newE _ (by simp) (by exact lg.2.2.2.1 a ne) (by exact fun _ w => lg.2.2.2.2.2 a w)⟩
      · subst e1; subst e2
        obtain ⟨z1, q1, q2, q3⟩ := h.2.1.ask0 (F := F) hF rl h.akb (by omega) (.inl rfl) q hn
        obtain ⟨z2, d1, d2, d3, d4⟩ := cask_2 (F := F) hF h.2.2.1.1 h.2.2.2.1 (.inr (.inl ⟨rfl, rfl, e3⟩)) q hn
        exact ⟨z1, z2, na, H, m, ty, na + 1, _, Hc, mc, phi, _, q1, d1, h.ask0 (by simp) (by exact Nat.zero_le _) (by intro w; exact absurd (show (2 : Nat) = 1 from w) (by decide)) q2 d2 d3 d4, q3, d3, by omega, by rw [upA_s], by rw [upA_s], by rw [upA_s], by omega, new _, fun _ _ => ⟨rfl, rfl, rfl⟩, fun _ I2 => I2.newE _ (by simp) (by exact Nat.zero_le _) (by intro w; exact absurd (show (2 : Nat) = 1 from w) (by decide))⟩
      · subst e1
        obtain ⟨l1, l2⟩ := lg.2.1 a k e2
        cases w : fdR nr rs a k with
        | none =>
          obtain ⟨z1, q1, q2, q3⟩ := h.2.1.ask0 (F := F) hF rl h.akb k31 (.inr ⟨rfl, w⟩) q hn
          obtain ⟨z2, d1, d2, d3, d4⟩ := cask_3n (F := F) hF h.2.2.1.1 h.2.2.2.1 cg e2 q hn (l1 w) (lg.w3n w)
          exact ⟨z1, z2, na, H, m, ty, na + 1, _, Hc, mc, phi, _, q1, d1, h.ask0 (by simp) (by exact Nat.zero_le _) (by intro w; exact absurd (show (3 : Nat) = 1 from w) (by decide)) q2 d2 d3 d4, q3, d3, by omega, by rw [upA_s], by rw [upA_s], by rw [upA_s], by omega, new _, fun _ _ => ⟨rfl, rfl, rfl⟩, fun _ I2 => I2.newE _ (by simp) (by exact Nat.zero_le _) (by intro w; exact absurd (show (3 : Nat) = 1 from w) (by decide))⟩
        | some i =>
          obtain ⟨r, x, x1, x2, d, tq, x3, x4, x5, x6, x7, x8, x9⟩ := l2 i w
          have hr := fd_lt 256 0 r x1
          have xl := ((cg.2.2.2 r (by omega)).2 x x2).2.2.2.2.2.2.1
          have lim1 := h.2.2.1.2.2.2.2.2.2.1
          have lim2 := h.2.2.1.2.2.2.2.2.2.2
          have bb1 := h.2.2.2.2.2.2.2.2.2.1
          have bb2 := h.2.2.2.2.2.2.2.2.2.2
          obtain ⟨z1, q1, q2, q3⟩ := h.2.1.ask3 (F := F) hF rl nw h.akb k31 w q hn (by omega)
          obtain ⟨z2, Hx, d1, d2, d3, d4, d5, d6⟩ := cask_3s (F := F) hF h.2.2.1.1 h.2.2.2.1 cg e2 q hn x1 x2 x3 x4 h.2.2.1.2.1 (by omega) (lg.w3s w)
          have d2' : CJ z2 (na + 1) (upA ak na (3, a, k, 0, true, m)) (fun e => if e = na then mc else cn e) ws := ⟨⟨d2.1.1, d2.1.2.cg (fun i _ => by by_cases z : i = na; subst z; (rw [upA_s, upA_s]; exact ⟨rfl, rfl, rfl⟩); rw [upA_n z, upA_n z]; exact ⟨rfl, rfl, rfl⟩)⟩, d2.2.1, fun y hy => by
            have w := d2.2.2 y hy
            by_cases z : y = na
            · subst z; rw [upA_s] at w ⊢; exact w
            · rw [upA_n z] at w ⊢; exact w⟩
          obtain ⟨M, M0, M1⟩ := x9 Hx mc d6
          have hqS := lg.2.2.2.2.1 a k i tq w x7 x8
          generalize (rs i).2.2.1 = Q at *
          generalize (rs i).2.2.2 = sz at *
          have lN' : ∀ p, p < sz → ldH H m Q 0 sz (m + p) = ((Q p).1, (Q p).2.1, (Q p).2.2.1, (kds Q p).map (fun c => m + c)) := fun p hp => by
            unfold ldH
            rw [if_pos ⟨by omega, by omega⟩, show 0 + (m + p - m) = p by omega]
            simp
          have lO : ∀ v, v < m → ldH H m Q 0 sz v = H v := fun v hv => by unfold ldH; rw [if_neg (by omega)]
          have lD : ∀ v, m + sz ≤ v → ldH H m Q 0 sz v = (0, 0, 0, []) := fun v hv => by unfold ldH; rw [if_neg (by omega)]; exact nw.2.2 v (by omega)
          have lk : ∀ p, p < sz → kds (ldH H m Q 0 sz) (m + p) = (kds Q p).map (fun c => m + c) := fun p hp => by unfold kds; rw [lN' p hp]
          have mk : ∀ p, p < sz → ∀ c, c ∈ kds (ldH H m Q 0 sz) (m + p) → ∃ c0, c0 ∈ kds Q p ∧ c = m + c0 ∧ c0 < sz := fun p hp c hc => by
            rw [lk p hp] at hc
            obtain ⟨c0, y1, y2⟩ := List.mem_map.mp hc
            exact ⟨c0, y1, y2.symm, ((x7 p hp).2.2.2.2.2.1 c0 y1).2⟩
          have mt : ∀ p, p < sz → (kds (ldH H m Q 0 sz) (m + p)).map (fun i => if i < m then ty i else tq (i - m)) = (kds Q p).map tq := fun p hp => by
            rw [lk p hp, List.map_map]
            apply List.map_congr_left
            intro c _
            show (if m + c < m then ty (m + c) else tq (m + c - m)) = tq c
            rw [if_neg (by omega), Nat.add_sub_cancel_left]
          have lt : ∀ i, m ≤ i → i < m + sz → (ldH H m Q 0 sz i).1 ≠ 0 ∧ LTm E (if i < m then ty i else tq (i - m)) (ldH H m Q 0 sz i) ((kds (ldH H m Q 0 sz) i).map (fun i => if i < m then ty i else tq (i - m))) ∧ (kds (ldH H m Q 0 sz) i).Nodup ∧ E.2.1 (if i < m then ty i else tq (i - m)) ≤ 38 ∧ (∀ c, c ∈ kds (ldH H m Q 0 sz) i → i < c ∧ c < m + sz) ∧ ∀ j, m ≤ j → j < m + sz → ∀ c, c ∈ kds (ldH H m Q 0 sz) i → c ∈ kds (ldH H m Q 0 sz) j → j = i := fun i i1 i2 => by
            obtain ⟨p, rfl⟩ : ∃ p, i = m + p := ⟨i - m, by omega⟩
            have hp : p < sz := by omega
            obtain ⟨y1, y2, y3, y4, y5, y6, y7, y8⟩ := x7 p hp
            rw [if_neg (show ¬ m + p < m by omega), Nat.add_sub_cancel_left, mt p hp]
            refine ⟨by rw [lN' p hp]; exact y1, ?_, ?_, y4, fun c hc => ?_, fun j j1 j2 c hc hc' => ?_⟩
            · rw [lN' p hp]; exact y2.of rfl rfl rfl
            · rw [lk p hp, List.Nodup, List.pairwise_iff_getElem]
              intro a b ha hb hab y
              rw [List.length_map] at ha hb
              rw [List.getElem_map, List.getElem_map] at y
              exact List.pairwise_iff_getElem.mp y3 a b ha hb hab (by omega)
            · obtain ⟨c0, w1, w2, w3⟩ := mk p hp c hc
              have := y6 c0 w1
              omega
            · obtain ⟨p', rfl⟩ : ∃ p', j = m + p' := ⟨j - m, by omega⟩
              obtain ⟨c0, w1, w2, w3⟩ := mk p hp c hc
              obtain ⟨c1, v1, v2, v3⟩ := mk p' (by omega) c hc'
              have : c0 = c1 := by omega
              subst this
              rw [y7 p' (by omega) c0 w1 v1]
          have mjF : ∀ fr2, MJ E H m ty fr2 nf na ak (fun _ => none) → MJ E (ldH H m Q 0 sz) (m + sz) (fun i => if i < m then ty i else tq (i - m)) fr2 nf (na + 1) (upA ak na (3, a, k, 0, true, m)) (fun _ => none) := fun fr2 I2 => I2.freshR hE (H' := ldH H m Q 0 sz) (m' := m + sz) (ty' := fun i => if i < m then ty i else tq (i - m)) (by omega) (fun v hv => ⟨lO v hv, if_pos hv⟩) lD lt (3, a, k, 0, true, m) rfl (by simp [x8]) (by
            have e0 : ubA (3, a, k, 0, true, m) = 0 := rfl
            rw [e0, Nat.add_zero, Nat.add_sub_cancel_left]
            refine Nat.le_trans (Nat.le_of_eq (sN_cg (fun p hp => ?_))) hqS
            simp only [if_neg (show ¬ m + p < m by omega), Nat.add_sub_cancel_left, am]
            rw [lN' p hp]) (by show (3 : Nat) ≠ 1; decide)
          have mj := mjF fr h.1
          have tyn := h.ht.tyn hA h.2.2.2.2.2.2.2.1
          have eb := Enc_bk d6
          obtain ⟨phi', Hn, hcn, rc, pe, pm⟩ := RC.new (H' := ldH H m Q 0 sz) (ty' := fun i => if i < m then ty i else tq (i - m)) (Hc' := Hx) (w := m) (u' := m + sz) (u := mc) (u'' := mc + x.2.2.length) h.2.2.2.2.1 d4 (fun v hv => (h.ht.2 v hv).1) tyn.1 tyn.2 (fun i a b => (lt i a b).1) (fun i a => ⟨lO i a, if_pos a⟩) (fun i a => by rw [lD i a]) h.2.2.2.2.2.2.2.2.1 h.hcu d5 ⟨fun i a b => by
              obtain ⟨j, j1, j2⟩ := (x7 (i - m) (by omega)).2.2.2.2.2.2.2 (by omega)
              exact ⟨m + j, by omega, by omega, by rw [lk j (by omega)]; exact List.mem_map.mpr ⟨i - m, j2, by omega⟩⟩, fun i j c a b a' b' hi hj => ((lt j a' b').2.2.2.2.2 i a b c hj hi), fun i c a b hc => (lt i a b).2.2.2.2.1 c hc, fun i a b => (lt i a b).2.2.1⟩ ⟨fun i j c a b a' b' hi hj => (eb j a' b').2.2.2 i a b c hj hi, fun i c a b hc => (eb i a b).2.2.1 c hc, fun i a b => (eb i a b).2.1⟩ (by omega) (by simp [x8]; omega) (fun i a b q c hc => by
              obtain ⟨p, rfl⟩ : ∃ p, i = m + p := ⟨i - m, by omega⟩
              simp only [if_neg (show ¬ m + p < m by omega), Nat.add_sub_cancel_left] at q
              obtain ⟨c0, w1, w2, w3⟩ := mk p (by omega) c hc
              subst w2
              simp only [if_neg (show ¬ m + c0 < m by omega), Nat.add_sub_cancel_left]
              exact (x7 p (by omega)).2.1.na hA q (x7 p (by omega)).2.2.2.2.1 _ (List.mem_map_of_mem w1)) (fun i a b q c hc => by
              obtain ⟨p, rfl⟩ : ∃ p, i = m + p := ⟨i - m, by omega⟩
              simp only [if_neg (show ¬ m + p < m by omega), Nat.add_sub_cancel_left] at q
              obtain ⟨c0, w1, w2, w3⟩ := mk p (by omega) c hc
              subst w2
              simp only [if_neg (show ¬ m + c0 < m by omega), Nat.add_sub_cancel_left]
              have y2 := (x7 p (by omega)).2.1.ts
              rcases y2 with y | y
              · have : tq c0 ∈ (kds Q p).map tq := List.mem_map_of_mem w1
                rw [y.2, if_pos q] at this
                simpa using this
              · omega) (fun i a b q => by
              obtain ⟨p, rfl⟩ : ∃ p, i = m + p := ⟨i - m, by omega⟩
              simp only [if_neg (show ¬ m + p < m by omega), Nat.add_sub_cancel_left] at q
              have y2 := (x7 p (by omega)).2.1.ts
              rw [lk p (by omega)]
              rcases y2 with y | y
              · rw [q] at y
                have y' := y.2
                rw [if_neg (by decide), if_neg (by decide)] at y'
                have : kds Q p = [] := by simpa using y'
                rw [this]; rfl
              · omega) (M := fun i j => M (i - m) j) (by simp only [Nat.sub_self]; exact M0) (fun i j a b q hM => by
              obtain ⟨p, rfl⟩ : ∃ p, i = m + p := ⟨i - m, by omega⟩
              simp only [if_neg (show ¬ m + p < m by omega), Nat.add_sub_cancel_left] at q hM
              obtain ⟨y1, y2, y3⟩ := M1 p j (by omega) q hM
              refine ⟨y1, y2, ?_⟩
              rcases y3 with ⟨u1, u2, u3, ⟨c, u4, u5⟩, u6⟩ | ⟨u1, u2, u3, u4, u5⟩
              · have cs2 : c < sz := ((x7 p (by omega)).2.2.2.2.2.1 c (by rw [u4]; simp)).2
                refine .inl ⟨by simp only [if_neg (show ¬ m + p < m by omega), Nat.add_sub_cancel_left]; exact u1, u2, u3, ⟨m + c, by rw [lk p (by omega), u4]; rfl, by rw [lN' c cs2]; exact u5⟩, u6⟩
              · refine .inr ⟨by simp only [if_neg (show ¬ m + p < m by omega), Nat.add_sub_cancel_left]; exact u1, by rw [lN' p (by omega)]; exact u2, by rw [lN' p (by omega)]; exact u3, by rw [lk p (by omega), List.length_map]; exact u4, fun t c y hc hy => ?_⟩
                rw [lk p (by omega), List.getElem?_map] at hc
                cases q2 : (kds Q p)[t]? with
                | none => rw [q2] at hc; exact absurd hc (by simp)
                | some c0 =>
                  rw [q2] at hc
                  have : c = m + c0 := by simpa using hc.symm
                  subst this
                  simp only [Nat.add_sub_cancel_left]
                  exact u5 t c0 y q2 hy)
          have h' := h
          obtain ⟨I, _, cm0, _, rr', sr, an, na2, rn, rm1, rm2⟩ := h
          refine ⟨z1, z2, na, _, m + sz, _, na + 1, _, Hn, mc + x.2.2.length, phi', _, q1, d1, ⟨mj, q2, cm0.jr d3 hcn, d2', rc, ⟨fun a d k t c w => ?_, sr.2⟩, fun j hj h3 ht => ?_, fun v hv => ?_, fun j t w => by have := rn j t w; omega, by omega, by omega⟩, q3, d3, by omega, by rw [upA_s], by rw [upA_s], by rw [upA_s], by omega, new _, fun i hi => ⟨lO i hi, if_pos hi, pe i hi⟩, mjF⟩
          · have sl := sr.1 _ _ _ _ _ w
            have ss := h'.slot w
            exact ⟨fun z => by rw [pe _ ss.2.1]; exact sl.1 z, sl.2⟩
          · by_cases y : j = na
            · subst y
              simp only [if_true]
              rw [upA_s]
              exact pm.symm
            · simp only [if_neg y]
              rw [upA_n y] at h3 ht ⊢
              have al := (I.2.2.2.2.1 j (by omega) h3 ht).1
              rw [pe _ (I.2.1.2 _ al).1]
              exact an j (by omega) h3 ht
          · by_cases y : v < m
            · simp only [if_pos y]
              rw [lO v y] at hv
              exact na2 v hv
            · simp only [if_neg y]
              have vu : v < m + sz := by
                by_cases y' : v < m + sz
                · exact y'
                · rw [lD v (by omega)] at hv; exact absurd rfl hv
              exact (x7 (v - m) (by omega)).2.2.2.2.1
end
