/-! DIGESTS: rows as a whole; SHA-256's mixing as the class does it -/
def sr (z : St) (k : Nat) (f : Nat → Int32) : St := (fun k' => if k' = k then f else z.1 k', z.2.1, z.2.2)
def srl (z : St) (k : Nat) (f : Nat → Int64) : St := (z.1, fun k' => if k' = k then f else z.2.1 k', z.2.2)
theorem sr_s {z : St} {k : Nat} {f : Nat → Int32} : (sr z k f).1 k = f := if_pos rfl
theorem sr_o {z : St} {k k' : Nat} {f : Nat → Int32} (h : k' ≠ k) : (sr z k f).1 k' = z.1 k' := if_neg h
theorem sr_2 {z : St} {k : Nat} {f : Nat → Int32} : (sr z k f).2.1 = z.2.1 := rfl
theorem sr_3 {z : St} {k : Nat} {f : Nat → Int32} : (sr z k f).2.2 = z.2.2 := rfl
theorem srl_1 {z : St} {k : Nat} {f : Nat → Int64} : (srl z k f).1 = z.1 := rfl
theorem srl_s {z : St} {k : Nat} {f : Nat → Int64} : (srl z k f).2.1 k = f := if_pos rfl
theorem srl_o {z : St} {k k' : Nat} {f : Nat → Int64} (h : k' ≠ k) : (srl z k f).2.1 k' = z.2.1 k' := if_neg h
theorem srl_3 {z : St} {k : Nat} {f : Nat → Int64} : (srl z k f).2.2 = z.2.2 := rfl
theorem si_sr {z : St} {k j : Nat} {v : Int32} : si z k j v = sr z k (fun j' => if j' = j then v else z.1 k j') := by
  unfold si sr
  congr 1
  funext k' j'
  by_cases h : k' = k <;> simp [h]
theorem sl_srl {z : St} {k j : Nat} {v : Int64} : sl z k j v = srl z k (fun j' => if j' = j then v else z.2.1 k j') := by
  unfold sl srl
  congr 2
  funext k' j'
  by_cases h : k' = k <;> simp [h]
theorem sr_sr {z : St} {k : Nat} {f g : Nat → Int32} : sr (sr z k f) k g = sr z k g := by
  unfold sr
  congr 1
  funext k' j'
  by_cases h : k' = k <;> simp [h]
theorem srl_srl {z : St} {k : Nat} {f g : Nat → Int64} : srl (srl z k f) k g = srl z k g := by
  unfold srl
  congr 2
  funext k' j'
  by_cases h : k' = k <;> simp [h]
theorem sr_id {z : St} {k : Nat} : sr z k (z.1 k) = z := by
  unfold sr
  have e : (fun k' => if k' = k then z.1 k else z.1 k') = z.1 := by
    funext k'
    by_cases h : k' = k <;> simp [h]
  rw [e]
theorem srl_id {z : St} {k : Nat} : srl z k (z.2.1 k) = z := by
  unfold srl
  have e : (fun k' => if k' = k then z.2.1 k else z.2.1 k') = z.2.1 := by
    funext k'
    by_cases h : k' = k <;> simp [h]
  rw [e]
theorem si_k {z : St} {k j : Nat} {f : Nat → Int32} {v : Int32} : si (sr z k f) k j v = sr z k (fun j' => if j' = j then v else f j') := by rw [si_sr, sr_s, sr_sr]
theorem sl_k {z : St} {k j : Nat} {f : Nat → Int64} {v : Int64} : sl (srl z k f) k j v = srl z k (fun j' => if j' = j then v else f j') := by rw [sl_srl, srl_s, srl_srl]
/-- the class's digest object at cell d, its words at kw, its block at ks -/
def DgX (sh : Nat → Nat × Nat) (n : Nat) (q : Nat → Nat → Option Nat) (d kw ks : Nat) : Prop := d < n ∧ (sh d).1 = 0 ∧ kw < n ∧ sh kw = (101, 8) ∧ ks < n ∧ sh ks = (101, 64) ∧ q d 0 = some kw ∧ q d 1 = some ks ∧ d ≠ kw ∧ d ≠ ks ∧ kw ≠ ks
def g0 (v : Int32) : Int32 := (((((v : Int32).toUInt32 >>> ((7 : Int32).toUInt32 &&& Int32.toUInt32 31)).toInt32) ||| (v <<< (25 &&& 31))) ^^^ ((((v : Int32).toUInt32 >>> ((18 : Int32).toUInt32 &&& Int32.toUInt32 31)).toInt32) ||| (v <<< (14 &&& 31)))) ^^^ (((v : Int32).toUInt32 >>> ((3 : Int32).toUInt32 &&& Int32.toUInt32 31)).toInt32)
def g1 (v : Int32) : Int32 := (((((v : Int32).toUInt32 >>> ((17 : Int32).toUInt32 &&& Int32.toUInt32 31)).toInt32) ||| (v <<< (15 &&& 31))) ^^^ ((((v : Int32).toUInt32 >>> ((19 : Int32).toUInt32 &&& Int32.toUInt32 31)).toInt32) ||| (v <<< (13 &&& 31)))) ^^^ (((v : Int32).toUInt32 >>> ((10 : Int32).toUInt32 &&& Int32.toUInt32 31)).toInt32)
def h1 (e : Int32) : Int32 := (((((e : Int32).toUInt32 >>> ((6 : Int32).toUInt32 &&& Int32.toUInt32 31)).toInt32) ||| (e <<< (26 &&& 31))) ^^^ ((((e : Int32).toUInt32 >>> ((11 : Int32).toUInt32 &&& Int32.toUInt32 31)).toInt32) ||| (e <<< (21 &&& 31)))) ^^^ ((((e : Int32).toUInt32 >>> ((25 : Int32).toUInt32 &&& Int32.toUInt32 31)).toInt32) ||| (e <<< (7 &&& 31)))
def h2 (a : Int32) : Int32 := (((((a : Int32).toUInt32 >>> ((2 : Int32).toUInt32 &&& Int32.toUInt32 31)).toInt32) ||| (a <<< (30 &&& 31))) ^^^ ((((a : Int32).toUInt32 >>> ((13 : Int32).toUInt32 &&& Int32.toUInt32 31)).toInt32) ||| (a <<< (19 &&& 31)))) ^^^ ((((a : Int32).toUInt32 >>> ((22 : Int32).toUInt32 &&& Int32.toUInt32 31)).toInt32) ||| (a <<< (10 &&& 31)))
/-- the block's 16 words drawn out to 64: k of them are laid -/
def exW : Nat → (Nat → Int32) → Nat → Int32
  | 0, w => w
  | k + 1, w => fun j => if j = 16 + k then ((exW k w k + g0 (exW k w (k + 1))) + exW k w (k + 9)) + g1 (exW k w (14 + k)) else exW k w j
abbrev T8 : Type := Int32 × Int32 × Int32 × Int32 × Int32 × Int32 × Int32 × Int32
def x1 (w : Nat → Int32) (t : Nat) (s : T8) : Int32 := h1 s.2.2.2.2.1 + (((s.2.2.2.2.2.2.2 + ((s.2.2.2.2.1 &&& s.2.2.2.2.2.1) ^^^ ((s.2.2.2.2.1 ^^^ (-1)) &&& s.2.2.2.2.2.2.1))) + fs_K t) + w t)
def x2 (s : T8) : Int32 := h2 s.1 + (((s.1 &&& s.2.1) ^^^ (s.1 &&& s.2.2.1)) ^^^ (s.2.1 &&& s.2.2.1))
def rd (w : Nat → Int32) (t : Nat) (s : T8) : T8 := (x1 w t s + x2 s, s.1, s.2.1, s.2.2.1, s.2.2.2.1 + x1 w t s, s.2.2.2.2.1, s.2.2.2.2.2.1, s.2.2.2.2.2.2.1)
def rds (w : Nat → Int32) : Nat → T8 → T8
  | 0, s => s
  | t + 1, s => rd w t (rds w t s)
def adH (H : Nat → Int32) (s : T8) : Nat → Int32 := fun j => if j = 7 then H 7 + s.2.2.2.2.2.2.2 else if j = 6 then H 6 + s.2.2.2.2.2.2.1 else if j = 5 then H 5 + s.2.2.2.2.2.1 else if j = 4 then H 4 + s.2.2.2.2.1 else if j = 3 then H 3 + s.2.2.2.1 else if j = 2 then H 2 + s.2.2.1 else if j = 1 then H 1 + s.2.1 else if j = 0 then H 0 + s.1 else H j
def t8 (H : Nat → Int32) : T8 := (H 0, H 1, H 2, H 3, H 4, H 5, H 6, H 7)
/-- one block w mixed into the words H -/
def cmpr (H w : Nat → Int32) : Nat → Int32 := adH H (rds (exW 48 w) 64 (t8 H))
theorem mix_s {F : Nat} {sh : Nat → Nat × Nat} {n d kw ks : Nat} {z : St} (D : DgX sh n z.2.2 d kw ks) (w : Nat → Int32) {i f : Nat} (hi : i < 48) : fn_X0_mix_L3 F sh n d (f + 1) (sr z ks (exW i w)) (nI (16 + i)) = fn_X0_mix_L3 F sh n d f (sr z ks (exW (i + 1) w)) (nI (16 + (i + 1))) := by
  obtain ⟨d1, d2, d3, d4, d5, d6, d7, d8, -⟩ := D
  have hc : ¬ (64 : Int32) ≤ nI (16 + i) := nI_ge (a := 16 + i) (b := 64) (by omega) (by decide)
  have e15 : nI (16 + i) - 15 = nI (i + 1) := (pk_sub (a := 16 + i) (b := 15) (by omega)).trans (by rw [show 16 + i - 15 = i + 1 by omega])
  have e2 : nI (16 + i) - 2 = nI (14 + i) := (pk_sub (a := 16 + i) (b := 2) (by omega)).trans (by rw [show 16 + i - 2 = 14 + i by omega])
  have e16 : nI (16 + i) - 16 = nI i := (pk_sub (a := 16 + i) (b := 16) (by omega)).trans (by rw [show 16 + i - 16 = i by omega])
  have e7 : nI (16 + i) - 7 = nI (i + 9) := (pk_sub (a := 16 + i) (b := 7) (by omega)).trans (by rw [show 16 + i - 7 = i + 9 by omega])
  have e1 : nI (16 + i) + 1 = nI (16 + (i + 1)) := nI_1 (16 + i)
  have A : ∀ j, j < 64 → okA sh n ks 101 (nI j) = true := fun j hj => okA_nI d5 d6 hj (by decide)
  rw [fn_X0_mix_L3, if_neg hc, e15, e2, e16, e7, e1]
  simp only [grd_t (okO_of d1 d2), sr_3, lnk_t d8, grd_t (A (i + 1) (by omega)), grd_t (A (14 + i) (by omega)), grd_t (A i (by omega)), grd_t (A (i + 9) (by omega)), grd_t (A (16 + i) (by omega)), lt_t, sr_s, nI_clamp (show i + 1 < 2 ^ 31 by omega), nI_clamp (show 14 + i < 2 ^ 31 by omega), nI_clamp (show i < 2 ^ 31 by omega), nI_clamp (show i + 9 < 2 ^ 31 by omega), nI_clamp (show 16 + i < 2 ^ 31 by omega), si_k]
  rfl
theorem mix_r {F : Nat} {sh : Nat → Nat × Nat} {n d kw ks : Nat} {z : St} (D : DgX sh n z.2.2 d kw ks) (s : T8) {t f : Nat} (ht : t < 64) : fn_X0_mix_L182 F sh n d (f + 1) z s.1 s.2.1 s.2.2.1 s.2.2.2.1 s.2.2.2.2.1 s.2.2.2.2.2.1 s.2.2.2.2.2.2.1 s.2.2.2.2.2.2.2 (nI t) = fn_X0_mix_L182 F sh n d f z (rd (z.1 ks) t s).1 (rd (z.1 ks) t s).2.1 (rd (z.1 ks) t s).2.2.1 (rd (z.1 ks) t s).2.2.2.1 (rd (z.1 ks) t s).2.2.2.2.1 (rd (z.1 ks) t s).2.2.2.2.2.1 (rd (z.1 ks) t s).2.2.2.2.2.2.1 (rd (z.1 ks) t s).2.2.2.2.2.2.2 (nI (t + 1)) := by
  obtain ⟨d1, d2, d3, d4, d5, d6, d7, d8, -⟩ := D
  have hc : ¬ (64 : Int32) ≤ nI t := nI_ge (a := t) (b := 64) ht (by decide)
  have hI : okI (nI t) 64 = true := by
    have e := nI_toInt (n := t) (by omega)
    simp only [okI, Bool.and_eq_true, decide_eq_true_eq]
    omega
  rw [fn_X0_mix_L182, if_neg hc, show nI t + 1 = nI (t + 1) from nI_1 t]
  simp only [grd_t hI, lnk_t d8, grd_t (okA_nI d5 d6 ht (by decide)), lt_t, nI_clamp (show t < 2 ^ 31 by omega)]
  rfl
theorem mix_e {F : Nat} {sh : Nat → Nat × Nat} {n d kw ks : Nat} {z : St} (D : DgX sh n z.2.2 d kw ks) (s : T8) {f : Nat} : fn_X0_mix_L182 F sh n d (f + 1) z s.1 s.2.1 s.2.2.1 s.2.2.2.1 s.2.2.2.2.1 s.2.2.2.2.2.1 s.2.2.2.2.2.2.1 s.2.2.2.2.2.2.2 (nI 64) = some (sr z kw (adH (z.1 kw) s), ()) := by
  obtain ⟨d1, d2, d3, d4, d5, d6, d7, d8, -⟩ := D
  have A : ∀ j, j < 8 → okA sh n kw 101 (nI j) = true := fun j hj => okA_nI d3 d4 hj (by decide)
  have hc : (64 : Int32) ≤ nI 64 := by decide
  rw [fn_X0_mix_L182, if_pos hc]
  have c0 : (0 : Int32).toNatClampNeg = 0 := rfl
  have c1 : (1 : Int32).toNatClampNeg = 1 := rfl
  have c2 : (2 : Int32).toNatClampNeg = 2 := rfl
  have c3 : (3 : Int32).toNatClampNeg = 3 := rfl
  have c4 : (4 : Int32).toNatClampNeg = 4 := rfl
  have c5 : (5 : Int32).toNatClampNeg = 5 := rfl
  have c6 : (6 : Int32).toNatClampNeg = 6 := rfl
  have c7 : (7 : Int32).toNatClampNeg = 7 := rfl
  have A0 : okA sh n kw 101 0 = true := A 0 (by decide)
  have A1 : okA sh n kw 101 1 = true := A 1 (by decide)
  have A2 : okA sh n kw 101 2 = true := A 2 (by decide)
  have A3 : okA sh n kw 101 3 = true := A 3 (by decide)
  have A4 : okA sh n kw 101 4 = true := A 4 (by decide)
  have A5 : okA sh n kw 101 5 = true := A 5 (by decide)
  have A6 : okA sh n kw 101 6 = true := A 6 (by decide)
  have A7 : okA sh n kw 101 7 = true := A 7 (by decide)
  simp only [lnk_t d7, grd_t A0, grd_t A1, grd_t A2, grd_t A3, grd_t A4, grd_t A5, grd_t A6, grd_t A7, lt_t, c0, c1, c2, c3, c4, c5, c6, c7, si_3]
  simp only [si_sr, sr_s, sr_sr]
  rfl
theorem mix_l1 {F : Nat} {sh : Nat → Nat × Nat} {n d kw ks : Nat} {z : St} (D : DgX sh n z.2.2 d kw ks) (w : Nat → Int32) : ∀ m i f : Nat, m + i = 48 → fn_X0_mix_L3 F sh n d (f + m) (sr z ks (exW i w)) (nI (16 + i)) = fn_X0_mix_L3 F sh n d f (sr z ks (exW 48 w)) (nI 64) := by
  intro m
  induction m with
  | zero => intro i f h; rw [show i = 48 by omega]; rfl
  | succ m ih => intro i f h; rw [← Nat.add_assoc, mix_s D w (by omega), ih (i + 1) f (by omega)]
theorem mix_x {F : Nat} {sh : Nat → Nat × Nat} {n d kw ks : Nat} {z : St} (D : DgX sh n z.2.2 d kw ks) {f : Nat} : fn_X0_mix_L3 F sh n d (f + 1) z (nI 64) = fn_X0_mix_L182 F sh n d F z (z.1 kw 0) (z.1 kw 1) (z.1 kw 2) (z.1 kw 3) (z.1 kw 4) (z.1 kw 5) (z.1 kw 6) (z.1 kw 7) (nI 0) := by
  obtain ⟨d1, d2, d3, d4, d5, d6, d7, d8, -⟩ := D
  have A : ∀ j, j < 8 → okA sh n kw 101 (nI j) = true := fun j hj => okA_nI d3 d4 hj (by decide)
  rw [fn_X0_mix_L3, if_pos (by decide)]
  have A0 : okA sh n kw 101 0 = true := A 0 (by decide)
  have A1 : okA sh n kw 101 1 = true := A 1 (by decide)
  have A2 : okA sh n kw 101 2 = true := A 2 (by decide)
  have A3 : okA sh n kw 101 3 = true := A 3 (by decide)
  have A4 : okA sh n kw 101 4 = true := A 4 (by decide)
  have A5 : okA sh n kw 101 5 = true := A 5 (by decide)
  have A6 : okA sh n kw 101 6 = true := A 6 (by decide)
  have A7 : okA sh n kw 101 7 = true := A 7 (by decide)
  simp only [grd_t (okO_of d1 d2), lnk_t d7, grd_t A0, grd_t A1, grd_t A2, grd_t A3, grd_t A4, grd_t A5, grd_t A6, grd_t A7, lt_t]
  rfl
theorem mix_l2 {F : Nat} {sh : Nat → Nat × Nat} {n d kw ks : Nat} {z : St} (D : DgX sh n z.2.2 d kw ks) (s : T8) : ∀ m t f : Nat, m + t = 64 → fn_X0_mix_L182 F sh n d (f + m) z (rds (z.1 ks) t s).1 (rds (z.1 ks) t s).2.1 (rds (z.1 ks) t s).2.2.1 (rds (z.1 ks) t s).2.2.2.1 (rds (z.1 ks) t s).2.2.2.2.1 (rds (z.1 ks) t s).2.2.2.2.2.1 (rds (z.1 ks) t s).2.2.2.2.2.2.1 (rds (z.1 ks) t s).2.2.2.2.2.2.2 (nI t) = fn_X0_mix_L182 F sh n d f z (rds (z.1 ks) 64 s).1 (rds (z.1 ks) 64 s).2.1 (rds (z.1 ks) 64 s).2.2.1 (rds (z.1 ks) 64 s).2.2.2.1 (rds (z.1 ks) 64 s).2.2.2.2.1 (rds (z.1 ks) 64 s).2.2.2.2.2.1 (rds (z.1 ks) 64 s).2.2.2.2.2.2.1 (rds (z.1 ks) 64 s).2.2.2.2.2.2.2 (nI 64) := by
  intro m
  induction m with
  | zero => intro t f h; rw [show t = 64 by omega]; rfl
  | succ m ih => intro t f h; rw [← Nat.add_assoc, mix_r D (rds (z.1 ks) t s) (by omega)]; exact ih (t + 1) f (by omega)
theorem mix_t {F : Nat} {sh : Nat → Nat × Nat} {n d kw ks : Nat} {z : St} (D : DgX sh n z.2.2 d kw ks) (hF : 64 < F) : fn_X0_mix F sh n z d = some (sr (sr z ks (exW 48 (z.1 ks))) kw (cmpr (z.1 kw) (z.1 ks)), ()) := by
  have hne : kw ≠ ks := D.2.2.2.2.2.2.2.2.2.2
  have D' : DgX sh n (sr z ks (exW 48 (z.1 ks))).2.2 d kw ks := D
  have e1 := mix_l1 (F := F) D (z.1 ks) 48 0 (F - 48) rfl
  rw [show F - 48 + 48 = F by omega] at e1
  have e0 : sr z ks (exW 0 (z.1 ks)) = z := sr_id
  rw [e0] at e1
  have e2 := mix_x (F := F) D' (f := F - 49)
  rw [show F - 49 + 1 = F - 48 by omega] at e2
  have e3 := mix_l2 (F := F) D' (t8 ((sr z ks (exW 48 (z.1 ks))).1 kw)) 64 0 (F - 64) rfl
  rw [show F - 64 + 64 = F by omega] at e3
  have e4 := mix_e (F := F) D' (rds ((sr z ks (exW 48 (z.1 ks))).1 ks) 64 (t8 ((sr z ks (exW 48 (z.1 ks))).1 kw))) (f := F - 65)
  rw [show F - 65 + 1 = F - 64 by omega] at e4
  have e5 : fn_X0_mix F sh n z d = fn_X0_mix_L3 F sh n d F z (nI (16 + 0)) := rfl
  rw [e5, e1, e2]
  refine (e3.trans e4).trans ?_
  rw [sr_s, sr_o hne]
  rfl
theorem exW_lo {w w' : Nat → Int32} (h : ∀ t, t < 16 → w t = w' t) : ∀ k, k ≤ 48 → ∀ j, j < 16 + k → exW k w j = exW k w' j := by
  intro k
  induction k with
  | zero => intro _ j hj; exact h j hj
  | succ k ih =>
    intro hk j hj
    have ih := ih (by omega)
    unfold exW
    by_cases e : j = 16 + k
    · rw [if_pos e, if_pos e, ih k (by omega), ih (k + 1) (by omega), ih (k + 9) (by omega), ih (14 + k) (by omega)]
    · rw [if_neg e, if_neg e]
      exact ih j (by omega)
theorem rds_lo {w w' : Nat → Int32} (h : ∀ t, t < 64 → w t = w' t) (s : T8) : ∀ t, t ≤ 64 → rds w t s = rds w' t s := by
  intro t
  induction t with
  | zero => intro _; rfl
  | succ t ih =>
    intro ht
    show rd w t (rds w t s) = rd w' t (rds w' t s)
    rw [ih (by omega)]
    unfold rd x1
    rw [h t (by omega)]
theorem cmpr_lo {H H' w w' : Nat → Int32} (hH : ∀ j, j < 8 → H j = H' j) (hw : ∀ t, t < 16 → w t = w' t) : ∀ j, j < 8 → cmpr H w j = cmpr H' w' j := by
  intro j hj
  unfold cmpr
  have e : t8 H = t8 H' := by unfold t8; rw [hH 0 (by decide), hH 1 (by decide), hH 2 (by decide), hH 3 (by decide), hH 4 (by decide), hH 5 (by decide), hH 6 (by decide), hH 7 (by decide)]
  rw [e, rds_lo (exW_lo hw 48 (Nat.le_refl _)) (t8 H') 64 (Nat.le_refl _)]
  unfold adH
  rw [hH 0 (by decide), hH 1 (by decide), hH 2 (by decide), hH 3 (by decide), hH 4 (by decide), hH 5 (by decide), hH 6 (by decide), hH 7 (by decide), hH j hj]
/-- a word that r of its bytes were shifted into -/
def pw (g : Int32) (b : Nat → Int32) (o : Nat) : Nat → Int32
  | 0 => g
  | r + 1 => (pw g b o r <<< (8 &&& 31)) ||| (b (o + r) &&& 255)
/-- the words behind q blocks of the bytes b -/
def HS (b : Nat → Int32) : Nat → Nat → Int32
  | 0 => fs_FIRST
  | q + 1 => cmpr (HS b q) (fun t => pw 0 b (64 * q + 4 * t) 4)
theorem shl8 (x : Int32) : (x <<< ((8 : Int32) &&& 31)).toBitVec = x.toBitVec <<< 8 := by
  rw [Int32.toBitVec_shiftLeft]
  rfl
theorem pw_4 {g : Int32} {b : Nat → Int32} {o : Nat} : pw g b o 4 = pw 0 b o 4 := by
  apply b32_ext
  intro i hi
  simp only [pw, Int32.toBitVec_or, shl8, BitVec.getLsbD_or, BitVec.getLsbD_shiftLeft]
  by_cases h1 : i < 8
  · simp [h1]
  · by_cases h2 : i - 8 < 8
    · simp [h1, h2]
    · by_cases h3 : i - 8 - 8 < 8
      · simp [h1, h2, h3]
      · have h4 : i - 8 - 8 - 8 < 8 := by omega
        simp [h1, h2, h3, h4]
/-- the class's digest behind 64 q + r bytes of b -/
def DI (sh : Nat → Nat × Nat) (n : Nat) (z : St) (d kw ks : Nat) (b : Nat → Int32) (q r : Nat) : Prop := DgX sh n z.2.2 d kw ks ∧ r < 64 ∧ (∀ j, j < 8 → z.1 kw j = HS b q j) ∧ z.1 d 2 = nI r ∧ z.2.1 d 3 = lN (64 * q + r) ∧ (∀ t, t < r / 4 → z.1 ks t = pw 0 b (64 * q + 4 * t) 4) ∧ ∃ g, z.1 ks (r / 4) = pw g b (64 * q + 4 * (r / 4)) (r % 4)
def frD (z z' : St) (d kw ks : Nat) : Prop := (∀ k, k ≠ d → k ≠ kw → k ≠ ks → z'.1 k = z.1 k) ∧ (∀ k, k ≠ d → z'.2.1 k = z.2.1 k) ∧ z'.2.2 = z.2.2
theorem frD_t {z z' z'' : St} {d kw ks : Nat} (h : frD z z' d kw ks) (h' : frD z' z'' d kw ks) : frD z z'' d kw ks := ⟨fun k a b c => (h'.1 k a b c).trans (h.1 k a b c), fun k a => (h'.2.1 k a).trans (h.2.1 k a), h'.2.2.trans h.2.2⟩
theorem put_t {F : Nat} {sh : Nat → Nat × Nat} {n d kw ks q r : Nat} {z : St} {b : Nat → Int32} {x : Int32} (I : DI sh n z d kw ks b q r) (hF : 64 < F) (hx : x &&& 255 = b (64 * q + r) &&& 255) : ∃ z', fn_X0_put F sh n z d x = some (z', ()) ∧ DI sh n z' d kw ks b (if r = 63 then q + 1 else q) (if r = 63 then 0 else r + 1) ∧ frD z z' d kw ks := by
  obtain ⟨D, hr, hH, hf, ht, hw, g, hg⟩ := I
  obtain ⟨d1, d2, d3, d4, d5, d6, d7, d8, d9, d10, d11⟩ := id D
  have hs : nI r >>> (2 &&& 31) = nI (r / 4) := pk_shrN (by omega) _ 2 (by decide)
  have hA : okA sh n ks 101 (nI (r / 4)) = true := okA_nI d5 d6 (by omega) (by decide)
  unfold fn_X0_put
  simp only [grd_t (okO_of d1 d2), hf, hs, lt_t, lnk_t d8, grd_t hA, nI_clamp (show r / 4 < 2 ^ 31 by omega), hg, hx]
  have eV : (pw g b (64 * q + 4 * (r / 4)) (r % 4) <<< (8 &&& 31)) ||| (b (64 * q + r) &&& 255) = pw g b (64 * q + 4 * (r / 4)) (r % 4 + 1) := by
    rw [pw, show 64 * q + 4 * (r / 4) + r % 4 = 64 * q + r by omega]
  rw [eV]
  generalize hV : pw g b (64 * q + 4 * (r / 4)) (r % 4 + 1) = V
  have b1 : (si z ks (r / 4) V).1 d 2 = nI r := by rw [si_1, if_neg d10, hf]
  rw [b1, nI_1, show (si (si z ks (r / 4) V) d 2 (nI (r + 1))).2.1 d 3 = lN (64 * q + r) from ht, lN_1]
  have b3 : (sl (si (si z ks (r / 4) V) d 2 (nI (r + 1))) d 3 (lN (64 * q + r + 1))).1 d 2 = nI (r + 1) := by simp [sl, si]
  rw [b3]
  by_cases h63 : r = 63
  · subst h63
    rw [if_pos (show nI (63 + 1) = 64 from rfl), if_pos rfl, if_pos rfl]
    have D' : DgX sh n (si (sl (si (si z ks (63 / 4) V) d 2 (nI (63 + 1))) d 3 (lN (64 * q + 63 + 1))) d 2 0).2.2 d kw ks := D
    rw [cal_t (mix_t D' hF)]
    have k1 : (si (sl (si (si z ks (63 / 4) V) d 2 (nI (63 + 1))) d 3 (lN (64 * q + 63 + 1))) d 2 0).1 kw = z.1 kw := by
      funext j
      simp [sl, si, Ne.symm d9, d11]
    have k2 : (si (sl (si (si z ks (63 / 4) V) d 2 (nI (63 + 1))) d 3 (lN (64 * q + 63 + 1))) d 2 0).1 ks = fun j => if j = 15 then V else z.1 ks j := by
      funext j
      simp [sl, si, Ne.symm d10]
    refine ⟨_, rfl, ⟨D, by decide, ?_, ?_, ?_, fun t h => absurd h (by omega), _, rfl⟩, ?_, ?_, rfl⟩
    · intro j hj
      rw [sr_s, k1, k2]
      refine cmpr_lo hH (fun t h16 => ?_) j hj
      by_cases h15 : t = 15
      · subst h15
        rw [if_pos rfl, ← hV]
        exact pw_4
      · rw [if_neg h15]
        exact hw t (by omega)
    · rw [sr_o d9, sr_o d10]
      simp [sl, si]
      rfl
    · show (sl (si (si z ks (63 / 4) V) d 2 (nI (63 + 1))) d 3 (lN (64 * q + 63 + 1))).2.1 d 3 = _
      simp only [sl_2, if_true]
      rw [show 64 * q + 63 + 1 = 64 * (q + 1) + 0 by omega]
    · intro k h1 h2 h3
      rw [sr_o h2, sr_o h3]
      funext j
      simp [sl, si, h1, h3]
    · intro k h1
      funext j
      show (sl (si (si z ks (63 / 4) V) d 2 (nI (63 + 1))) d 3 (lN (64 * q + 63 + 1))).2.1 k j = _
      rw [sl_2, if_neg h1]
      rfl
  · have hne : ¬ nI (r + 1) = 64 := fun e => by
      have e := (nI_eq (a := r + 1) (b := 64) (by omega) (by decide)).mp e
      omega
    rw [if_neg hne, if_neg h63, if_neg h63]
    have k1 : (sl (si (si z ks (r / 4) V) d 2 (nI (r + 1))) d 3 (lN (64 * q + r + 1))).1 kw = z.1 kw := by
      funext j
      simp [sl, si, Ne.symm d9, d11]
    have k2 : (sl (si (si z ks (r / 4) V) d 2 (nI (r + 1))) d 3 (lN (64 * q + r + 1))).1 ks = fun j => if j = r / 4 then V else z.1 ks j := by
      funext j
      simp [sl, si, Ne.symm d10]
    refine ⟨_, rfl, ⟨D, by omega, ?_, b3, ?_, ?_, ?_⟩, ?_, ?_, rfl⟩
    · intro j hj
      rw [k1]
      exact hH j hj
    · simp only [sl_2, if_true]
      rw [show 64 * q + r + 1 = 64 * q + (r + 1) by omega]
    · intro t h
      rw [k2]
      by_cases e : t = r / 4
      · subst e
        have h3 : r % 4 = 3 := by omega
        show (if r / 4 = r / 4 then V else _) = _
        rw [if_pos rfl, ← hV, h3]
        exact pw_4
      · show (if t = r / 4 then V else _) = _
        rw [if_neg e]
        exact hw t (by omega)
    · rw [k2]
      by_cases h3 : r % 4 = 3
      · exact ⟨_, by rw [show (r + 1) % 4 = 0 by omega]; rfl⟩
      · refine ⟨g, ?_⟩
        show (if (r + 1) / 4 = r / 4 then V else _) = _
        rw [if_pos (by omega), ← hV, show (r + 1) / 4 = r / 4 by omega, show (r + 1) % 4 = r % 4 + 1 by omega]
    · intro k h1 h2 h3
      funext j
      simp [sl, si, h1, h3]
    · intro k h1
      funext j
      rw [sl_2, if_neg h1]
      rfl
