/-! THE RELATION OF BOTH OBJECTS: z the reference's state, y the class's -/
/-- a transaction that publishes -/
def TxP (sh : Nat → Nat × Nat) (n : Nat) (z y : St) (t : Nat) : Prop := y.1 (113 + 7 * t) 0 = 0 ∧ z.1 400 t = 1 ∧ ∃ kb len, y.2.2 (113 + 7 * t) 6 = some kb ∧ 513 ≤ kb ∧ kb < n ∧ kb ≠ CBK ∧ sh kb = (100, len) ∧ len ≤ 2048 ∧ z.1 411 t = nI len ∧ ∀ p, p < len → y.1 kb p = z.1 410 (2048 * t + p)
/-- an argument that may be given -/
def ArO (kd : Nat) (hi lo : Int64) : Prop := 1 ≤ kd ∧ kd ≤ 5 ∧ (kd ≠ 4 → hi = 0) ∧ (kd = 1 → lo = 0 ∨ lo = 1) ∧ (kd = 2 → N lo < 256)
/-- a transaction that calls -/
def TxM (z y : St) (t : Nat) : Prop := y.1 (113 + 7 * t) 0 = 1 ∧ z.1 400 t = 2 ∧ ∃ (m f c : Nat) (kd : Nat → Nat) (hi lo : Nat → Int64), m < 65536 ∧ f < 64 ∧ c ≤ 8 ∧ (y.1 (113 + 7 * t) 4 = nI m ∧ y.1 (113 + 7 * t) 5 = nI f ∧ y.1 (113 + 7 * t) 7 = nI c) ∧ (z.1 404 t = nI m ∧ z.1 405 t = nI f ∧ z.1 406 t = nI c) ∧ ∀ i, i < c → ArO (kd i) (hi i) (lo i) ∧ (y.1 (113 + 7 * t + 1) i = nI (kd i) ∧ y.2.1 (113 + 7 * t + 2) i = hi i ∧ y.2.1 (113 + 7 * t + 3) i = lo i) ∧ z.1 407 (8 * t + i) = nI (kd i) ∧ z.2.1 408 (8 * t + i) = hi i ∧ z.2.1 409 (8 * t + i) = lo i
def TxL (sh : Nat → Nat × Nat) (n : Nat) (z y : St) (t : Nat) : Prop := (y.2.1 (113 + 7 * t) 1 = z.2.1 401 t ∧ y.2.1 (113 + 7 * t) 2 = z.2.1 402 t ∧ ∃ lim, 10 ≤ lim ∧ lim ≤ 20000 ∧ y.1 (113 + 7 * t) 3 = nI lim ∧ z.1 403 t = nI lim) ∧ (TxP sh n z y t ∨ TxM z y t)
/-- what is told of a transaction that is done -/
def TxD (z y : St) (t : Nat) : Prop := ∃ o g c h kd hi lo, o ≤ 4 ∧ g ≤ 20000 ∧ (z.1 412 t = nI o ∧ z.1 413 t = nI g ∧ z.2.1 415 t = c ∧ z.1 414 t = (if o = 4 then y.1 (113 + 7 * t) 14 else 0)) ∧ (y.1 (113 + 7 * t) 11 = nI o ∧ y.1 (113 + 7 * t) 13 = nI g ∧ y.2.1 (113 + 7 * t) 12 = c) ∧ ResS t h kd hi lo z y
def Bck (sh : Nat → Nat × Nat) (n : Nat) (z y : St) (cnt dn : Nat) : Prop := (z.1 337 52 = nI cnt ∧ y.1 0 4 = nI cnt ∧ cnt ≤ 32) ∧ (z.1 337 53 = nI dn ∧ y.1 0 5 = nI dn ∧ dn ≤ cnt) ∧ (∀ t, t < cnt → TxL sh n z y t) ∧ (∀ t, t < dn → TxD z y t) ∧ ∀ t, dn ≤ t → t < cnt → y.1 (113 + 7 * t) 15 = 0
/-- the tape, what was woven -/
def Tap (z y : St) (len w : Nat) : Prop := (y.1 0 1 = nI len ∧ z.1 337 50 = nI len ∧ len ≤ 2048) ∧ (∀ p, p < len → y.1 1 p = z.1 399 p) ∧ (∀ p, p < 2048 → fits .byte (.int (y.1 1 p)) = true) ∧ y.1 0 2 = nI w ∧ z.1 337 51 = nI w ∧ w ≤ 4096
/-- bytes that were asked for -/
def Akd (z y : St) (len : Nat) : Prop := y.1 0 12 = nI len ∧ z.1 337 75 = nI len ∧ len ≤ 1024 ∧ ∀ p, p < len → y.1 86 p &&& 255 = z.1 420 p &&& 255
/-- bytes of the modules -/
def Byt (sh : Nat → Nat × Nat) (n : Nat) (z y : St) (wc : Nat) (bs : Nat → Nat × (Nat → Nat)) : Prop := ∀ i, 1 ≤ i → i ≤ wc → ∃ kb, y.2.2 (15 + 5 * i) 0 = some kb ∧ 513 ≤ kb ∧ y.1 (15 + 5 * i) 1 = nI (bs i).1 ∧ z.1 (423 + 9 * i) 1 = nI (bs i).1 ∧ (bs i).1 ≤ 2048 ∧ ∀ p, p < (bs i).1 → (bs i).2 p < 256 ∧ z.1 (423 + 9 * i + 1) p &&& 255 = nI ((bs i).2 p) ∧ ∃ v, rb sh n y kb (nI p) = some v ∧ v &&& 255 = nI ((bs i).2 p)
def led0 : Nat → Int64 → Nat → Nat := fun _ _ _ => 0
/-- what is stored: accounts, resources, coins -/
def Lgr (z y : St) (ws : Nat → Md) (wc : Nat) (dp : Nat → Nat → Nat) (nc : Nat) (ac : Nat → Int64 × Int64 × Int64) (nr : Nat) (rs : Nat → Int64 × Nat × Hp × Nat) (so : Nat → Option Rsc) (D : Nat) : Prop := (RLg z nc ac nr rs ∧ CLg y nc ac nr so ∧ RsP (evW ws wc dp led0) (fM ws wc) nr rs so ∧ UqA nc ac ∧ nc + wc + nr ≤ 256) ∧ (LdT (evW ws wc dp led0) D nc ac nr rs ∧ D < 2 ^ 62) ∧ (z.2.1 337 20 = y.2.1 3 14 ∧ z.2.1 337 21 = y.2.1 3 15 ∧ z.2.1 337 20 - z.2.1 337 21 = lN D) ∧ z.1 337 22 = y.1 88 6 ∧ y.1 88 6 = 0
/-- a root is computed anew from what is stored -/
abbrev RtV : Type := Nat → (Nat → Nat × (Nat → Nat)) → Nat → (Nat → Int64 × Int64 × Int64) → Nat → (Nat → Int64 × Nat × Hp × Nat) → Nat → Int64
def Fsh (RV : RtV) (y : St) (wc : Nat) (bs : Nat → Nat × (Nat → Nat)) (nc : Nat) (ac : Nat → Int64 × Int64 × Int64) (nr : Nat) (rs : Nat → Int64 × Nat × Hp × Nat) : Prop := y.1 73 1 = 0 → ∀ j, j < 4 → y.2.1 74 j = RV wc bs nc ac nr rs j
def Wor (sh : Nat → Nat × Nat) (n : Nat) (z y : St) (ws : Nat → Md) (wc : Nat) (dp : Nat → Nat → Nat) (bs : Nat → Nat × (Nat → Nat)) : Prop := RWo sh n z ws wc dp ∧ CWo sh n y ws wc dp ∧ SWo ws wc dp ∧ Byt sh n z y wc bs
def Top (RV : RtV) (sh : Nat → Nat × Nat) (n : Nat) (z y : St) : Prop := ∃ ws wc dp bs nc ac nr rs so D, Wor sh n z y ws wc dp bs ∧ Lgr z y ws wc dp nc ac nr rs so D ∧ Fsh RV y wc bs nc ac nr rs ∧ (∃ cnt dn, Bck sh n z y cnt dn) ∧ (∃ len w, Tap z y len w) ∧ ∃ len, Akd z y len
section
variable {RV : RtV} {sh : Nat → Nat × Nat} {n : Nat} {z z' y y' : St} {ws : Nat → Md} {wc : Nat} {dp : Nat → Nat → Nat} {bs : Nat → Nat × (Nat → Nat)} {nc : Nat} {ac : Nat → Int64 × Int64 × Int64} {nr : Nat} {rs : Nat → Int64 × Nat × Hp × Nat} {so : Nat → Option Rsc} {D cnt dn len w t h : Nat} {kd : Nat → Nat} {hi lo : Nat → Int64}
theorem RWo.eqR (h : RWo sh n z ws wc dp) (hl : Lay sh n z') (f : EqR z z') : RWo sh n z' ws wc dp := by
  obtain ⟨h1, h2, h3, h4⟩ := h
  refine ⟨hl, by rw [(f 337 (by omega) (by omega)).1]; exact h2, h3, fun i a b => ?_⟩
  obtain ⟨⟨b', len, M, c1, c2⟩, c3⟩ := h4 i a b
  exact ⟨⟨b', len, M, c1.fmk hl (fun k q1 q2 => (f k (by omega) (by omega)).1), c2⟩, fun s hs => by rw [(f 342 (by omega) (by omega)).1]; exact c3 s hs⟩
theorem CWo.eqC (h : CWo sh n y ws wc dp) (hl : Lay sh n y') (f : EqC y y') : CWo sh n y' ws wc dp := by
  have w8 := h.2.2.1
  exact h.of2 hl (by rw [(f 3 (by omega)).1]) (fun i hi => ⟨by rw [(f (15 + 5 * i) (by omega)).2.2], fun k q1 q2 => ⟨(f k (by omega)).1, (f k (by omega)).2.1⟩⟩) (fun k hk => (f k (by omega)).1)
theorem RLg.eqR (h : RLg z nc ac nr rs) (f : EqR z z') : RLg z' nc ac nr rs := h.of (fun k a b => ⟨(f k (by omega) (by omega)).1, (f k (by omega) (by omega)).2.1⟩) (by rw [(f 337 (by omega) (by omega)).1]) (by rw [(f 337 (by omega) (by omega)).1])
theorem CLg.eqC (h : CLg y nc ac nr so) (f : EqC y y') : CLg y' nc ac nr so := h.of (fun k a b => ⟨(f k (by omega)).1, (f k (by omega)).2.1⟩)
theorem rb_eqC (f : EqC y y') {kb : Nat} (hk : 513 ≤ kb) (i : Int32) : rb sh n y' kb i = rb sh n y kb i := rb_fr (f kb (by omega)).1
theorem Lgr.eqR (h : Lgr z y ws wc dp nc ac nr rs so D) (f : EqR z z') : Lgr z' y ws wc dp nc ac nr rs so D := by
  obtain ⟨⟨a1, a2⟩, b, c, d⟩ := h
  refine ⟨⟨a1.eqR f, a2⟩, b, ?_, ?_⟩
  · rw [(f 337 (by omega) (by omega)).2.1]; exact c
  · rw [(f 337 (by omega) (by omega)).1]; exact d
theorem Lgr.eqC (h : Lgr z y ws wc dp nc ac nr rs so D) (f : EqC y y') : Lgr z y' ws wc dp nc ac nr rs so D := by
  obtain ⟨⟨a1, a2, a3⟩, b, c, d⟩ := h
  refine ⟨⟨a1, a2.eqC f, a3⟩, b, ?_, ?_⟩
  · rw [(f 3 (by omega)).2.1]; exact c
  · rw [(f 88 (by omega)).1]; exact d
theorem Byt.eqR (hw : wc ≤ 8) (h : Byt sh n z y wc bs) (f : EqR z z') : Byt sh n z' y wc bs := fun i a b => by
  have := h i a b
  rw [(f (423 + 9 * i) (by omega) (by omega)).1, (f (423 + 9 * i + 1) (by omega) (by omega)).1]
  exact this
theorem Byt.eqC (hw : wc ≤ 8) (h : Byt sh n z y wc bs) (f : EqC y y') : Byt sh n z y' wc bs := fun i a b => by
  obtain ⟨kb, c1, c2, c3, c4, c5, c6⟩ := h i a b
  refine ⟨kb, by rw [(f (15 + 5 * i) (by omega)).2.2]; exact c1, c2, by rw [(f (15 + 5 * i) (by omega)).1]; exact c3, c4, c5, fun p hp => ?_⟩
  rw [rb_eqC f c2]
  exact c6 p hp
theorem Wor.eqR (h : Wor sh n z y ws wc dp bs) (hl : Lay sh n z') (f : EqR z z') : Wor sh n z' y ws wc dp bs := ⟨h.1.eqR hl f, h.2.1, h.2.2.1, h.2.2.2.eqR h.2.2.1.2.2.1 f⟩
theorem Wor.eqC (h : Wor sh n z y ws wc dp bs) (hl : Lay sh n y') (f : EqC y y') : Wor sh n z y' ws wc dp bs := ⟨h.1, h.2.1.eqC hl f, h.2.2.1, h.2.2.2.eqC h.2.2.1.2.2.1 f⟩
/-- what a transaction's rows are, on each side -/
def EqTr (t : Nat) (z z' : St) : Prop := (∀ k, k = 400 ∨ k = 403 ∨ k = 404 ∨ k = 405 ∨ k = 406 ∨ k = 411 → z'.1 k t = z.1 k t) ∧ z'.2.1 401 t = z.2.1 401 t ∧ z'.2.1 402 t = z.2.1 402 t ∧ (∀ i, i < 8 → z'.1 407 (8 * t + i) = z.1 407 (8 * t + i) ∧ z'.2.1 408 (8 * t + i) = z.2.1 408 (8 * t + i) ∧ z'.2.1 409 (8 * t + i) = z.2.1 409 (8 * t + i)) ∧ ∀ p, p < 2048 → z'.1 410 (2048 * t + p) = z.1 410 (2048 * t + p)
def EqTc (n t : Nat) (y y' : St) : Prop := (∀ j, j = 0 ∨ j = 3 ∨ j = 4 ∨ j = 5 ∨ j = 7 → y'.1 (113 + 7 * t) j = y.1 (113 + 7 * t) j) ∧ y'.2.1 (113 + 7 * t) 1 = y.2.1 (113 + 7 * t) 1 ∧ y'.2.1 (113 + 7 * t) 2 = y.2.1 (113 + 7 * t) 2 ∧ y'.2.2 (113 + 7 * t) 6 = y.2.2 (113 + 7 * t) 6 ∧ (∀ i, i < 8 → y'.1 (113 + 7 * t + 1) i = y.1 (113 + 7 * t + 1) i ∧ y'.2.1 (113 + 7 * t + 2) i = y.2.1 (113 + 7 * t + 2) i ∧ y'.2.1 (113 + 7 * t + 3) i = y.2.1 (113 + 7 * t + 3) i) ∧ ∀ k, 513 ≤ k → k < n → y'.1 k = y.1 k
theorem TxL.of {sh' : Nat → Nat × Nat} {n' : Nat} (h : TxL sh n z y t) (fr : EqTr t z z') (fc : EqTc n t y y') (hn : n ≤ n') (hs : ∀ k, k < n → sh' k = sh k) (hb : n ≤ 10 ^ 12) : TxL sh' n' z' y' t := by
  obtain ⟨⟨a1, a2, lim, a3, a4, a5, a6⟩, b⟩ := h
  obtain ⟨r1, r2, r3, r4, r5⟩ := fr
  obtain ⟨c1, c2, c3, c4, c5, c6⟩ := fc
  refine ⟨⟨by rw [c2, r2]; exact a1, by rw [c3, r3]; exact a2, lim, a3, a4, by rw [c1 3 (by omega)]; exact a5, by rw [r1 403 (by omega)]; exact a6⟩, ?_⟩
  rcases b with ⟨b1, b2, kb, len, b3, b4, b5, b6, b7, b8, b9, b10⟩ | ⟨b1, b2, m, f, c, kd, hi, lo, b3, b4, b5, ⟨b6, b7, b8⟩, ⟨b9, b10, b11⟩, b12⟩
  · refine .inl ⟨by rw [c1 0 (by omega)]; exact b1, by rw [r1 400 (by omega)]; exact b2, kb, len, by rw [c4]; exact b3, b4, by omega, b6, by rw [hs kb b5]; exact b7, b8, by rw [r1 411 (by omega)]; exact b9, fun p hp => ?_⟩
    rw [c6 kb b4 b5, r5 p (by omega)]
    exact b10 p hp
  · refine .inr ⟨by rw [c1 0 (by omega)]; exact b1, by rw [r1 400 (by omega)]; exact b2, m, f, c, kd, hi, lo, b3, b4, b5, ⟨by rw [c1 4 (by omega)]; exact b6, by rw [c1 5 (by omega)]; exact b7, by rw [c1 7 (by omega)]; exact b8⟩, ⟨by rw [r1 404 (by omega)]; exact b9, by rw [r1 405 (by omega)]; exact b10, by rw [r1 406 (by omega)]; exact b11⟩, fun i hi' => ?_⟩
    obtain ⟨d1, d2, d3⟩ := b12 i hi'
    obtain ⟨e1, e2, e3⟩ := c5 i (by omega)
    obtain ⟨g1, g2, g3⟩ := r4 i (by omega)
    rw [e1, e2, e3, g1, g2, g3]
    exact ⟨d1, d2, d3⟩
def EqDr (t : Nat) (z z' : St) : Prop := (∀ k, k = 412 ∨ k = 413 ∨ k = 414 ∨ k = 416 → z'.1 k t = z.1 k t) ∧ z'.2.1 415 t = z.2.1 415 t ∧ ∀ i, i < 8 → z'.1 417 (8 * t + i) = z.1 417 (8 * t + i) ∧ z'.2.1 418 (8 * t + i) = z.2.1 418 (8 * t + i) ∧ z'.2.1 419 (8 * t + i) = z.2.1 419 (8 * t + i)
def EqDc (t : Nat) (y y' : St) : Prop := (∀ j, j = 11 ∨ j = 13 ∨ j = 14 ∨ j = 15 → y'.1 (113 + 7 * t) j = y.1 (113 + 7 * t) j) ∧ y'.2.1 (113 + 7 * t) 12 = y.2.1 (113 + 7 * t) 12 ∧ ∀ i, i < 8 → y'.1 (113 + 7 * t + 4) i = y.1 (113 + 7 * t + 4) i ∧ y'.2.1 (113 + 7 * t + 5) i = y.2.1 (113 + 7 * t + 5) i ∧ y'.2.1 (113 + 7 * t + 6) i = y.2.1 (113 + 7 * t + 6) i
theorem ResS.of (h8 : ResS t h kd hi lo z y) (fr : EqDr t z z') (fc : EqDc t y y') : ResS t h kd hi lo z' y' := by
  obtain ⟨a1, a2, a3, a4⟩ := h8
  refine ⟨a1, by rw [fr.1 416 (by omega)]; exact a2, by rw [fc.1 15 (by omega)]; exact a3, fun k hk => ?_⟩
  obtain ⟨r1, r2, r3⟩ := fr.2.2 k (by omega)
  obtain ⟨c1, c2, c3⟩ := fc.2.2 k (by omega)
  rw [r1, r2, r3, c1, c2, c3]
  exact a4 k hk
theorem TxD.of (h : TxD z y t) (fr : EqDr t z z') (fc : EqDc t y y') : TxD z' y' t := by
  obtain ⟨o, g, c, h, kd, hi, lo, a1, a2, ⟨a3, a4, a5, a6⟩, ⟨a7, a8, a9⟩, a10⟩ := h
  refine ⟨o, g, c, h, kd, hi, lo, a1, a2, ⟨?_, ?_, ?_, ?_⟩, ⟨?_, ?_, ?_⟩, a10.of fr fc⟩
  · rw [fr.1 412 (by omega)]; exact a3
  · rw [fr.1 413 (by omega)]; exact a4
  · rw [fr.2.1]; exact a5
  · rw [fr.1 414 (by omega), fc.1 14 (by omega)]; exact a6
  · rw [fc.1 11 (by omega)]; exact a7
  · rw [fc.1 13 (by omega)]; exact a8
  · rw [fc.2.1]; exact a9
theorem EqR.tr (f : EqR z z') : EqTr t z z' := ⟨fun k q => by rw [(f k (by omega) (by omega)).1], by rw [(f 401 (by omega) (by omega)).2.1], by rw [(f 402 (by omega) (by omega)).2.1], fun i _ => ⟨by rw [(f 407 (by omega) (by omega)).1], by rw [(f 408 (by omega) (by omega)).2.1], by rw [(f 409 (by omega) (by omega)).2.1]⟩, fun p _ => by rw [(f 410 (by omega) (by omega)).1]⟩
theorem EqC.tc (f : EqC y y') (ht : t < 32) : EqTc n t y y' := ⟨fun k q => by rw [(f _ (by omega)).1], by rw [(f _ (by omega)).2.1], by rw [(f _ (by omega)).2.1], by rw [(f _ (by omega)).2.2], fun i _ => ⟨by rw [(f _ (by omega)).1], by rw [(f _ (by omega)).2.1], by rw [(f _ (by omega)).2.1]⟩, fun k hk _ => (f k (by omega)).1⟩
theorem EqR.dr (f : EqR z z') : EqDr t z z' := ⟨fun k q => by rw [(f k (by omega) (by omega)).1], by rw [(f 415 (by omega) (by omega)).2.1], fun i _ => ⟨by rw [(f 417 (by omega) (by omega)).1], by rw [(f 418 (by omega) (by omega)).2.1], by rw [(f 419 (by omega) (by omega)).2.1]⟩⟩
theorem EqC.dc (f : EqC y y') (ht : t < 32) : EqDc t y y' := ⟨fun k q => by rw [(f _ (by omega)).1], by rw [(f _ (by omega)).2.1], fun i _ => ⟨by rw [(f _ (by omega)).1], by rw [(f _ (by omega)).2.1], by rw [(f _ (by omega)).2.1]⟩⟩
theorem EqTr.refl : EqTr t z z := ⟨fun _ _ => rfl, rfl, rfl, fun _ _ => ⟨rfl, rfl, rfl⟩, fun _ _ => rfl⟩
theorem EqTc.refl : EqTc n t y y := ⟨fun _ _ => rfl, rfl, rfl, rfl, fun _ _ => ⟨rfl, rfl, rfl⟩, fun _ _ _ => rfl⟩
theorem EqDr.refl : EqDr t z z := ⟨fun _ _ => rfl, rfl, fun _ _ => ⟨rfl, rfl, rfl⟩⟩
theorem EqDc.refl : EqDc t y y := ⟨fun _ _ => rfl, rfl, fun _ _ => ⟨rfl, rfl, rfl⟩⟩
theorem Bck.of {sh' : Nat → Nat × Nat} {n' : Nat} (h : Bck sh n z y cnt dn) (a1 : z'.1 337 52 = z.1 337 52) (a2 : z'.1 337 53 = z.1 337 53) (b1 : y'.1 0 4 = y.1 0 4) (b2 : y'.1 0 5 = y.1 0 5) (fr : ∀ t, t < 32 → EqTr t z z' ∧ EqDr t z z') (fc : ∀ t, t < 32 → EqTc n t y y' ∧ EqDc t y y') (hn : n ≤ n') (hs : ∀ k, k < n → sh' k = sh k) (hb : n ≤ 10 ^ 12) : Bck sh' n' z' y' cnt dn := by
  obtain ⟨⟨h1, h2, h3⟩, ⟨h4, h5, h6⟩, h7, h8, h9⟩ := h
  refine ⟨⟨by rw [a1]; exact h1, by rw [b1]; exact h2, h3⟩, ⟨by rw [a2]; exact h4, by rw [b2]; exact h5, h6⟩, fun t ht => (h7 t ht).of (fr t (by omega)).1 (fc t (by omega)).1 hn hs hb, fun t ht => (h8 t ht).of (fr t (by omega)).2 (fc t (by omega)).2, fun t t1 t2 => ?_⟩
  rw [(fc t (by omega)).2.1 15 (by omega)]
  exact h9 t t1 t2
theorem Tap.of (h : Tap z y len w) (a : z'.1 337 50 = z.1 337 50 ∧ z'.1 337 51 = z.1 337 51 ∧ z'.1 399 = z.1 399) (b : y'.1 0 1 = y.1 0 1 ∧ y'.1 0 2 = y.1 0 2 ∧ y'.1 1 = y.1 1) : Tap z' y' len w := by
  unfold Tap
  rw [a.1, a.2.1, a.2.2, b.1, b.2.1, b.2.2]
  exact h
theorem Akd.of (h : Akd z y len) (a : z'.1 337 75 = z.1 337 75 ∧ z'.1 420 = z.1 420) (b : y'.1 0 12 = y.1 0 12 ∧ y'.1 86 = y.1 86) : Akd z' y' len := by
  unfold Akd
  rw [a.1, a.2, b.1, b.2]
  exact h
theorem Top.eqR (hb : n ≤ 10 ^ 12) (h : Top RV sh n z y) (hl : Lay sh n z') (f : EqR z z') : Top RV sh n z' y := by
  obtain ⟨ws, wc, dp, bs, nc, ac, nr, rs, so, D, a1, a2, a3, ⟨cnt, dn, a4⟩, ⟨len, w, a5⟩, ⟨l2, a6⟩⟩ := h
  have g := fun k a b => (f k a b).1
  exact ⟨ws, wc, dp, bs, nc, ac, nr, rs, so, D, a1.eqR hl f, a2.eqR f, a3, ⟨cnt, dn, a4.of (by rw [g 337 (by omega) (by omega)]) (by rw [g 337 (by omega) (by omega)]) rfl rfl (fun t _ => ⟨f.tr, f.dr⟩) (fun t _ => ⟨EqTc.refl, EqDc.refl⟩) (Nat.le_refl _) (fun _ _ => rfl) hb⟩, ⟨len, w, a5.of ⟨by rw [g 337 (by omega) (by omega)], by rw [g 337 (by omega) (by omega)], g 399 (by omega) (by omega)⟩ ⟨rfl, rfl, rfl⟩⟩, ⟨l2, a6.of ⟨by rw [g 337 (by omega) (by omega)], g 420 (by omega) (by omega)⟩ ⟨rfl, rfl⟩⟩⟩
theorem Top.eqC (hb : n ≤ 10 ^ 12) (h : Top RV sh n z y) (hl : Lay sh n y') (f : EqC y y') : Top RV sh n z y' := by
  obtain ⟨ws, wc, dp, bs, nc, ac, nr, rs, so, D, a1, a2, a3, ⟨cnt, dn, a4⟩, ⟨len, w, a5⟩, ⟨l2, a6⟩⟩ := h
  have g := fun k a => (f k a).1
  refine ⟨ws, wc, dp, bs, nc, ac, nr, rs, so, D, a1.eqC hl f, a2.eqC f, ?_, ⟨cnt, dn, a4.of rfl rfl (by rw [g 0 (by omega)]) (by rw [g 0 (by omega)]) (fun t _ => ⟨EqTr.refl, EqDr.refl⟩) (fun t ht => ⟨f.tc ht, f.dc ht⟩) (Nat.le_refl _) (fun _ _ => rfl) hb⟩, ⟨len, w, a5.of ⟨rfl, rfl, rfl⟩ ⟨by rw [g 0 (by omega)], by rw [g 0 (by omega)], g 1 (by omega)⟩⟩, ⟨l2, a6.of ⟨rfl, rfl⟩ ⟨by rw [g 0 (by omega)], g 86 (by omega)⟩⟩⟩
  unfold Fsh
  rw [(f 73 (by omega)).1, (f 74 (by omega)).2.1]
  exact a3
theorem Top.lay (h : Top RV sh n z y) : Lay sh n z ∧ Lay sh n y := by
  obtain ⟨ws, wc, dp, bs, nc, ac, nr, rs, so, D, a1, _⟩ := h
  exact ⟨a1.1.1, a1.2.1.1⟩
/-- both methods do the same: then so they do one after the other over one state -/
theorem Top.both {α : Type} {C M : St → Option (St × α)} (hs : ∀ z y, Top RV sh n z y → ∃ z' y' r, C y = some (y', r) ∧ M z = some (z', r) ∧ Top RV sh n z' y') (kC : KeC n C) (kM : KeM n M) (hb : n ≤ 10 ^ 12) (h : Top RV sh n z z) (k : Kpt n z) : ∃ z1 z2 r, C z = some (z1, r) ∧ M z1 = some (z2, r) ∧ Top RV sh n z2 z2 ∧ Kpt n z2 :=
  bothS (R := Top RV sh n) (L := Lay sh n) h.lay.1.1 hs (fun z y q => q.lay) (fun z y z' q l f => q.eqR hb l f) (fun z y y' q l f => q.eqC hb l f) kC kM h k
end
