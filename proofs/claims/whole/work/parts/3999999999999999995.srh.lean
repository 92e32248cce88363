/-! THE CLASS'S READER: its cursor, its fault -/
theorem or8 {a c : Nat} (ha : a < 2 ^ 20) (hc : c < 256) : (nI a <<< ((8 : Int32) &&& 31)) ||| nI c = nI (256 * a + c) := by
  apply Int32.toBitVec_inj.mp
  rw [Int32.toBitVec_or, shl8]
  apply BitVec.eq_of_toNat_eq
  rw [BitVec.toNat_or, BitVec.toNat_shiftLeft]
  show (a % 2 ^ 32) <<< 8 % 2 ^ 32 ||| c % 2 ^ 32 = (256 * a + c) % 2 ^ 32
  rw [Nat.mod_eq_of_lt (show a < 2 ^ 32 by omega), Nat.mod_eq_of_lt (show c < 2 ^ 32 by omega), Nat.mod_eq_of_lt (show 256 * a + c < 2 ^ 32 by omega), Nat.shiftLeft_eq, Nat.mod_eq_of_lt (show a * 2 ^ 8 < 2 ^ 32 by omega), ← Nat.shiftLeft_eq, ← Nat.shiftLeft_add_eq_or_of_lt (show c < 2 ^ 8 by omega), Nat.shiftLeft_eq]
  omega
theorem or8L {a c : Nat} (ha : a < 2 ^ 55) (hc : c < 256) : (lN a <<< ((8 : Int32).toInt64 &&& 63)) ||| (nI c).toInt64 = lN (256 * a + c) := by
  rw [nI_l (by omega)]
  have e : ((8 : Int32).toInt64 &&& 63) = 8 := by decide
  rw [e]
  apply Int64.toBitVec_inj.mp
  have e8 : (lN a <<< (8 : Int64)).toBitVec = (lN a).toBitVec <<< 8 := by rfl
  rw [Int64.toBitVec_or, e8]
  apply BitVec.eq_of_toNat_eq
  rw [BitVec.toNat_or, BitVec.toNat_shiftLeft]
  show (a % 2 ^ 64) <<< 8 % 2 ^ 64 ||| c % 2 ^ 64 = (256 * a + c) % 2 ^ 64
  rw [Nat.mod_eq_of_lt (show a < 2 ^ 64 by omega), Nat.mod_eq_of_lt (show c < 2 ^ 64 by omega), Nat.mod_eq_of_lt (show 256 * a + c < 2 ^ 64 by omega), Nat.shiftLeft_eq, Nat.mod_eq_of_lt (show a * 2 ^ 8 < 2 ^ 64 by omega), ← Nat.shiftLeft_eq, ← Nat.shiftLeft_add_eq_or_of_lt (show c < 2 ^ 8 by omega), Nat.shiftLeft_eq]
  omega
def cu {α : Type} (R : Ex (α × Nat)) : Ex Nat := match R with | .ok q => .ok q.2 | .error e => .error e
def KB (sh : Nat → Nat × Nat) (n : Nat) (z : St) (kp kb : Nat) (b : Nat → Nat) (len : Nat) (J : Bool) : Prop := Lay sh n z ∧ isP kp ∧ z.2.2 60 2 = some kp ∧ z.2.2 kp 0 = some kb ∧ 513 ≤ kb ∧ z.1 kp 1 = nI len ∧ len ≤ 2048 ∧ (∀ p, p < len → ∃ v, rb sh n z kb (nI p) = some v ∧ v &&& 255 = nI (b p) ∧ b p < 256) ∧ z.1 60 4 = bI J
def KQ (z : St) (len : Nat) : Ex Nat → Prop
  | .ok p => z.1 60 3 = nI p ∧ p ≤ len ∧ z.1 60 1 = nI 0 ∧ z.1 60 0 = nI 0
  | .error e => z.1 60 1 = nI e.1 ∧ 0 < e.1 ∧ e.1 < 16 ∧ z.1 60 0 = nI e.2
def KX (sh : Nat → Nat × Nat) (n : Nat) (z : St) (kp kb : Nat) (b : Nat → Nat) (len : Nat) (J : Bool) (r : Ex Nat) : Prop := KB sh n z kp kb b len J ∧ KQ z len r
/-- what is left alone: all but cells ks, fields js of the program, fields hs of the reader -/
def FrKd (kp : Nat) (ks js hs : List Nat) (z z' : St) : Prop := z'.2.2 = z.2.2 ∧ (∀ k, k ≠ 60 → k ≠ kp → k ∉ ks → z'.1 k = z.1 k) ∧ (∀ k, k ∉ ks → z'.2.1 k = z.2.1 k) ∧ (∀ j, j ∉ js → z'.1 kp j = z.1 kp j) ∧ ∀ j, j ∉ hs → z'.1 60 j = z.1 60 j
theorem FrKd.rfl' {kp : Nat} {ks js hs : List Nat} {z : St} : FrKd kp ks js hs z z := ⟨rfl, fun _ _ _ _ => rfl, fun _ _ => rfl, fun _ _ => rfl, fun _ _ => rfl⟩
theorem FrKd.trans {kp : Nat} {ks js hs : List Nat} {z z' z'' : St} (f : FrKd kp ks js hs z z') (g : FrKd kp ks js hs z' z'') : FrKd kp ks js hs z z'' := ⟨g.1.trans f.1, fun k a b c => (g.2.1 k a b c).trans (f.2.1 k a b c), fun k a => (g.2.2.1 k a).trans (f.2.2.1 k a), fun j a => (g.2.2.2.1 j a).trans (f.2.2.2.1 j a), fun j a => (g.2.2.2.2 j a).trans (f.2.2.2.2 j a)⟩
theorem FrKd.mono {kp : Nat} {ks js hs ks' js' hs' : List Nat} {z z' : St} (f : FrKd kp ks js hs z z') (h1 : ∀ k, k ∈ ks → k ∈ ks') (h2 : ∀ k, k ∈ js → k ∈ js') (h3 : ∀ k, k ∈ hs → k ∈ hs') : FrKd kp ks' js' hs' z z' := ⟨f.1, fun k a b c => f.2.1 k a b (fun q => c (h1 k q)), fun k a => f.2.2.1 k (fun q => a (h1 k q)), fun j a => f.2.2.2.1 j (fun q => a (h2 j q)), fun j a => f.2.2.2.2 j (fun q => a (h3 j q))⟩
theorem FrKd.si60 {kp : Nat} {ks js hs : List Nat} {z : St} {j : Nat} {v : Int32} (hk : kp ≠ 60) (h : j ∈ hs) : FrKd kp ks js hs z (si z 60 j v) := ⟨rfl, fun k a _ _ => si_ok a, fun _ _ => rfl, fun i _ => by rw [si_ok hk], fun i a => si_oj (fun q => a (q ▸ h))⟩
theorem FrKd.siP {kp : Nat} {ks js hs : List Nat} {z : St} {j : Nat} {v : Int32} (hk : kp ≠ 60) (h : j ∈ js) : FrKd kp ks js hs z (si z kp j v) := ⟨rfl, fun k _ a _ => si_ok a, fun _ _ => rfl, fun i a => si_oj (fun q => a (q ▸ h)), fun i _ => by rw [si_ok hk.symm]⟩
theorem FrKd.siK {kp : Nat} {ks js hs : List Nat} {z : St} {k j : Nat} {v : Int32} (h1 : k ≠ 60) (h2 : k ≠ kp) (h : k ∈ ks) : FrKd kp ks js hs z (si z k j v) := ⟨rfl, fun i _ _ a => si_ok (fun q => a (q ▸ h)), fun _ _ => rfl, fun i _ => by rw [si_ok h2.symm], fun i _ => by rw [si_ok h1.symm]⟩
theorem FrKd.slK {kp : Nat} {ks js hs : List Nat} {z : St} {k j : Nat} {v : Int64} (h : k ∈ ks) : FrKd kp ks js hs z (sl z k j v) := ⟨rfl, fun _ _ _ _ => rfl, fun i a => by
  have : i ≠ k := fun q => a (q ▸ h)
  exact sl_ok this, fun _ _ => rfl, fun _ _ => rfl⟩
abbrev FC (kp : Nat) (z z' : St) : Prop := FrKd kp [] [] [0, 1, 3] z z'
theorem FC.g {kp : Nat} {ks js hs : List Nat} {z z' : St} (f : FC kp z z') (h : 0 ∈ hs ∧ 1 ∈ hs ∧ 3 ∈ hs) : FrKd kp ks js hs z z' := f.mono (by simp) (by simp) (fun k hk => by simp at hk; rcases hk with e | e | e <;> subst e <;> simp [h])
theorem rb_fr {sh : Nat → Nat × Nat} {n : Nat} {z z' : St} {k : Nat} {i : Int32} (e : z'.1 k = z.1 k) : rb sh n z' k i = rb sh n z k i := by unfold rb; rw [e]
theorem isP_ne {kp : Nat} (h : isP kp) : kp + 4 < 60 ∧ 15 ≤ kp := by obtain ⟨i, hi, rfl⟩ := h; omega
section
variable {F n : Nat} {sh : Nat → Nat × Nat} {z z' : St} {kp kb len : Nat} {b : Nat → Nat} {J : Bool} {r : Ex Nat} {ks js hs : List Nat}
theorem KB.fr (h : KB sh n z kp kb b len J) (f : FrKd kp ks js hs z z') (h1 : ∀ k, k ∈ ks → k < 513) (h2 : 1 ∉ js) (h3 : 4 ∉ hs) : KB sh n z' kp kb b len J := by
  obtain ⟨a1, a2, a3, a4, a5, a6, a7, a8, a9⟩ := h
  have pn := isP_ne a2
  refine ⟨a1.of f.1, a2, by rw [f.1]; exact a3, by rw [f.1]; exact a4, a5, by rw [f.2.2.2.1 1 h2]; exact a6, a7, fun p hp => ?_, by rw [f.2.2.2.2 4 h3]; exact a9⟩
  rw [rb_fr (f.2.1 kb (by omega) (by omega) (fun q => by have := h1 kb q; omega))]
  exact a8 p hp
theorem KX.fr (h : KX sh n z kp kb b len J r) (f : FrKd kp ks js hs z z') (h1 : ∀ k, k ∈ ks → k < 513) (h2 : 1 ∉ js) (h3 : 0 ∉ hs ∧ 1 ∉ hs ∧ 3 ∉ hs ∧ 4 ∉ hs) : KX sh n z' kp kb b len J r := by
  refine ⟨h.1.fr f h1 h2 h3.2.2.2, ?_⟩
  have q := h.2
  cases r with
  | ok p => exact ⟨by rw [f.2.2.2.2 3 h3.2.2.1]; exact q.1, q.2.1, by rw [f.2.2.2.2 1 h3.2.1]; exact q.2.2.1, by rw [f.2.2.2.2 0 h3.1]; exact q.2.2.2⟩
  | error e => exact ⟨by rw [f.2.2.2.2 1 h3.2.1]; exact q.1, q.2.1, q.2.2.1, by rw [f.2.2.2.2 0 h3.1]; exact q.2.2.2⟩
theorem KB.o (h : KB sh n z kp kb b len J) : okO sh n 60 6 = true := (b_read h.1).1
theorem KB.p (h : KB sh n z kp kb b len J) : okO sh n kp 5 = true := (b_prog h.1 h.2.1).1
theorem KB.ne (h : KB sh n z kp kb b len J) : kp ≠ 60 := by have := isP_ne h.2.1; omega
theorem KX.ne0 {e : Nat × Nat} (h : KX sh n z kp kb b len J (.error e)) : ¬ z.1 60 1 = 0 := by
  have q := h.2
  rw [q.1]
  exact nI_ne0 q.2.1 (by have := q.2.2.1; omega)
theorem KX.is0 {p : Nat} (h : KX sh n z kp kb b len J (.ok p)) : z.1 60 1 = 0 := h.2.2.2.1
theorem KX.fail_e {e : Nat × Nat} (h : KX sh n z kp kb b len J (.error e)) (v x : Int32) : fn_X6_fail F sh n z 60 v x = some (z, ()) := by
  unfold fn_X6_fail
  rw [h.1.o, grd_true, if_neg h.ne0]
theorem KX.fail (h : KX sh n z kp kb b len J r) {w : Nat} {f : Nat → Nat} {iw x : Int32} (ew : iw = nI w) (hx : ∀ p, r = .ok p → x = nI (f p)) (h0 : 0 < w) (h16 : w < 16) : ∃ z', fn_X6_fail F sh n z 60 iw x = some (z', ()) ∧ KX sh n z' kp kb b len J (r >>= fun p => .error (w, f p)) ∧ FC kp z z' := by
  cases r with
  | error e => exact ⟨z, h.fail_e _ _, h, FrKd.rfl'⟩
  | ok p =>
    unfold fn_X6_fail
    rw [h.1.o, grd_true, if_pos h.is0, lt_t, lt_t, hx p rfl, ew]
    have fr : FC kp z (si (si z 60 1 (nI w)) 60 0 (nI (f p))) := (FrKd.si60 h.1.ne (by simp)).trans (FrKd.si60 h.1.ne (by simp))
    exact ⟨_, rfl, ⟨h.1.fr fr (by simp) (by simp) (by simp), by rw [si_oj (by omega), si_ss], h0, h16, si_ss⟩, fr⟩
theorem KX.byte_e {e : Nat × Nat} (h : KX sh n z kp kb b len J (.error e)) : fn_X6_readByte F sh n z 60 = some (z, 0) := by
  unfold fn_X6_readByte
  rw [h.1.o, grd_true, if_neg h.ne0]
theorem KX.byte (h : KX sh n z kp kb b len J r) : ∃ z', fn_X6_readByte F sh n z 60 = some (z', nI (vN (r >>= rBy b len))) ∧ KX sh n z' kp kb b len J (cu (r >>= rBy b len)) ∧ FC kp z z' := by
  cases r with
  | error e => exact ⟨z, h.byte_e, h, FrKd.rfl'⟩
  | ok p =>
    obtain ⟨⟨a1, a2, a3, a4, a5, a6, a7, a8, a9⟩, c1, c2, c3, c4⟩ := h
    have hB : KB sh n z kp kb b len J := ⟨a1, a2, a3, a4, a5, a6, a7, a8, a9⟩
    unfold fn_X6_readByte
    rw [ok_bq, hB.o, grd_true, if_pos (show z.1 60 1 = 0 from c3), a3, lnk_s, hB.p, grd_true, c1, a6]
    unfold rBy
    by_cases c : p < len
    · obtain ⟨v, v1, v2, v3⟩ := a8 p c
      have fr : FC kp z (si z 60 3 (nI (p + 1))) := FrKd.si60 hB.ne (by simp)
      rw [if_pos ((nI_ltI (by omega) (by omega)).mpr c), lnk_s, hB.p, grd_true, a4, lnk_s, lt_t, nI_1, lt_t, rb_fr (fr.2.1 kb (by omega) (by have := isP_ne a2; omega) (by simp)), v1, bnd_s, v2, if_pos c]
      exact ⟨_, rfl, ⟨hB.fr fr (by simp) (by simp) (by simp), si_ss, c, by rw [si_oj (by omega)]; exact c3, by rw [si_oj (by omega)]; exact c4⟩, fr⟩
    · have fr1 : FC kp z (si z 60 1 2) := FrKd.si60 hB.ne (by simp)
      have fr : FC kp z (si (si z 60 1 2) 60 0 (nI len)) := fr1.trans (FrKd.si60 hB.ne (by simp))
      rw [if_neg (fun x => c ((nI_ltI (by omega) (by omega)).mp x)), lt_t, show (si z 60 1 2).2.2 60 2 = some kp from a3, lnk_s, hB.p, grd_true, fr1.2.2.2.1 1 (by simp), a6, lt_t, if_neg c]
      exact ⟨_, rfl, ⟨hB.fr fr (by simp) (by simp) (by simp), by rw [si_oj (by omega), si_ss]; rfl, by omega, by omega, si_ss⟩, fr⟩
end
