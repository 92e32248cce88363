/-! THE CLASS'S PROGRAM: its bytes, its instructions -/
theorem or8G (x : Int64) {c : Nat} (hc : c < 256) : (x <<< ((8 : Int32).toInt64 &&& 63)) ||| (nI c).toInt64 = 256 * x + lN c := by
  rw [nI_l (by omega)]
  have e : ((8 : Int32).toInt64 &&& 63) = 8 := by decide
  rw [e]
  apply Int64.toBitVec_inj.mp
  have e8 : (x <<< (8 : Int64)).toBitVec = x.toBitVec <<< 8 := by rfl
  rw [Int64.toBitVec_or, e8, Int64.toBitVec_add, Int64.toBitVec_mul]
  apply BitVec.eq_of_toNat_eq
  rw [BitVec.toNat_or, BitVec.toNat_shiftLeft, BitVec.toNat_add, BitVec.toNat_mul]
  have hx : x.toBitVec.toNat < 2 ^ 64 := x.toBitVec.isLt
  generalize x.toBitVec.toNat = y at hx
  show y <<< 8 % 2 ^ 64 ||| c % 2 ^ 64 = (256 % 2 ^ 64 * y % 2 ^ 64 + c % 2 ^ 64) % 2 ^ 64
  rw [Nat.mod_eq_of_lt (show c < 2 ^ 64 by omega), Nat.shiftLeft_eq]
  have e1 : y * 2 ^ 8 % 2 ^ 64 = (y % 2 ^ 56) <<< 8 := by rw [Nat.shiftLeft_eq]; omega
  rw [e1, ← Nat.shiftLeft_add_eq_or_of_lt (show c < 2 ^ 8 by omega), Nat.shiftLeft_eq]
  omega
/-- bytes behind the end are 0 -/
def b0 (b : Nat → Nat) (len q : Nat) : Nat := if q < len then b q else 0
theorem numB_b0 {b : Nat → Nat} {len p : Nat} : ∀ k, p + k ≤ len → numB (b0 b len) p k = numB b p k
  | 0, _ => rfl
  | k + 1, h => by
    show 256 * numB (b0 b len) p k + lN (b0 b len (p + k)) = 256 * numB b p k + lN (b (p + k))
    rw [numB_b0 k (by omega)]
    unfold b0
    rw [if_pos (by omega)]
theorem lN_i16 {k : Nat} (h : k < 65536) : (lN k).toInt32 = nI k := by
  apply Int32.toBitVec_inj.mp
  apply BitVec.eq_of_toNat_eq
  rw [Int64.toBitVec_toInt32]
  show (BitVec.signExtend 32 (BitVec.ofNat 64 k)).toNat = (BitVec.ofNat 32 k).toNat
  rw [BitVec.signExtend_eq_setWidth_of_le _ (by omega)]
  simp
section
variable {F n : Nat} {sh : Nat → Nat × Nat} {z z' : St} {kp kb len : Nat} {b : Nat → Nat} {M : MP} {J : Bool} {r : Ex Nat}
/-- a program with its bytes -/
def CPr (sh : Nat → Nat × Nat) (n : Nat) (z : St) (kp kb : Nat) (b : Nat → Nat) (len : Nat) (M : MP) : Prop := CPo sh n z kp b len M ∧ z.2.2 kp 0 = some kb ∧ z.1 kp 1 = nI len ∧ len ≤ 2048 ∧ ∀ p, p < len → ∃ v, rb sh n z kb (nI p) = some v ∧ v &&& 255 = nI (b p) ∧ b p < 256
theorem CPr.hb (h : CPr sh n z kp kb b len M) : ∀ q, q < len → b q < 256 := fun q hq => by obtain ⟨v, _, _, b8⟩ := h.2.2.2.2 q hq; exact b8
theorem CPr.at (h : CPr sh n z kp kb b len M) {p : Nat} (hp : p < 2 ^ 30) : fn_X5_at F sh n z kp (nI p) = some (z, nI (b0 b len p)) ∧ b0 b len p < 256 := by
  obtain ⟨h1, h2, h3, h4, h5⟩ := h
  obtain ⟨p0, _⟩ := b_prog h1.1 h1.2.1
  unfold fn_X5_at b0
  rw [if_neg (fun y => by have := (nIlt (x := 0) 0 rfl (by omega) (by omega)).mp y; omega), p0, grd_true, h3]
  by_cases c : p < len
  · obtain ⟨v, v1, v2, v3⟩ := h5 p c
    rw [if_pos ((nI_ltI (by omega) (by omega)).mpr c), h2, lnk_s, v1, bnd_s, v2, if_pos c]
    exact ⟨rfl, v3⟩
  · rw [if_neg (fun y => c ((nI_ltI (by omega) (by omega)).mp y)), if_neg c]
    exact ⟨rfl, by omega⟩
theorem CPr.num (hF : 100 ≤ F) (h : CPr sh n z kp kb b len M) {p k : Nat} (hp : p + k < 2 ^ 30) (hk : k < 20) : fn_X5_numberAt F sh n z kp (nI p) (nI k) = some (z, numB (b0 b len) p k) := by
  obtain ⟨p0, _⟩ := b_prog h.1.1 h.1.2.1
  have lp : ∀ m i g, i + m = k → m < g → fn_X5_numberAt_L5 F sh n (nI k) kp (nI p) g z (numB (b0 b len) p i) (nI i) = some (z, numB (b0 b len) p k) := by
    intro m
    induction m with
    | zero =>
      intro i g ei hg
      obtain ⟨g, rfl⟩ : ∃ q, g = q + 1 := ⟨g - 1, by omega⟩
      unfold fn_X5_numberAt_L5
      rw [if_pos ((nI_leI (by omega) (by omega)).mpr (by omega))]
      have : i = k := by omega
      rw [this]
    | succ m ih =>
      intro i g ei hg
      obtain ⟨g, rfl⟩ : ∃ q, g = q + 1 := ⟨g - 1, by omega⟩
      obtain ⟨a1, a2⟩ := h.at (F := F) (p := p + i) (by omega)
      unfold fn_X5_numberAt_L5
      rw [if_neg (fun y => by have := (nI_leI (by omega) (by omega)).mp y; omega), p0, grd_true, nI_add, a1, cal_s, lt_t, or8G _ a2, nI_1]
      exact ih (i + 1) g (by omega) (by omega)
  exact lp k 0 F (by omega) (by omega)
def plM (M : MP) (f i : Nat) : Nat := (M.2.2.2.2.getD f dGP).2.2.2.2.2.getD i 0
def abM (b : Nat → Nat) (len : Nat) (M : MP) (f i : Nat) : Nat := b0 b len (plM M f i + 1)
theorem CPr.cIn (hF : 100 ≤ F) (h : CPr sh n z kp kb b len M) {p : Nat} (hp : InP b len p) : CIn F sh n z kp p (b p) (b0 b len (p + 1)) (opX b p) (opY b p) := by
  have l8 := h.2.2.2.1
  obtain ⟨p1, p2, p3, p4⟩ := hp
  have at0 := h.at (F := F) (p := p) (by omega)
  have at1 := h.at (F := F) (p := p + 1) (by omega)
  have at2 := h.at (F := F) (p := p + 2) (by omega)
  have e0 : b0 b len p = b p := by unfold b0; rw [if_pos p1]
  rw [e0] at at0
  have one : ∀ q, q < len → numB b q 1 = lN (b q) := fun q _ => numB_1 q
  refine ⟨at0.1, ⟨by rw [nI_1]; exact at1.1, at1.2, fun hq => ?_⟩, ⟨_, by rw [show nI p + 2 = nI (p + 2) from nI_add p 2]; exact at2.1, fun hq => ⟨b (p + 2), ?_, ?_, ?_⟩⟩, ⟨_, by rw [nI_1]; exact h.num (k := 2) hF (by omega) (by omega), fun h1 h2 => ⟨shB b (p + 1), ?_, ?_, ?_⟩⟩, fun hq => ?_, fun hq => ?_⟩
  · -- a byte
    by_cases c : b p = 16 ∨ b p = 17 ∨ b p = 52
    · obtain ⟨o1, o2⟩ := op_two (b p) (by omega) c
      unfold opX
      rw [if_pos o2, o1]
      rw [o1] at p3
      show numB b (p + 1) 1 = _
      rw [numB_1]
      unfold b0
      rw [if_pos (by omega)]
    · have c2 : opB (b p) = 1 ∧ twoO (b p) = false := by
        by_cases c5 : b p = 5
        · rw [c5]; exact ⟨rfl, rfl⟩
        · exact op_one (b p) (by omega) (by omega)
      unfold opX
      rw [c2.2, if_neg (by simp), c2.1, numB_1]
      rw [c2.1] at p3
      unfold b0
      rw [if_pos (by omega)]
  · obtain ⟨o1, o2⟩ := op_two (b p) (by omega) hq
    rw [o1] at p3
    exact h.hb _ (by omega)
  · obtain ⟨o1, o2⟩ := op_two (b p) (by omega) hq
    unfold opY
    rw [if_pos o2, o1]
    show numB b (p + 1 + 1) 1 = _
    rw [numB_1]
  · obtain ⟨o1, o2⟩ := op_two (b p) (by omega) hq
    rw [o1] at p3
    unfold b0
    rw [if_pos (by omega)]
  · obtain ⟨o1, o2⟩ := op_jmp (b p) (by omega) ⟨h1, h2⟩
    rw [o1] at p3
    have x1 := h.hb (p + 1) (by omega)
    have x2 := h.hb (p + 1 + 1) (by omega)
    unfold shB; omega
  · obtain ⟨o1, o2⟩ := op_jmp (b p) (by omega) ⟨h1, h2⟩
    rw [o1] at p3
    have x1 := h.hb (p + 1) (by omega)
    have x2 := h.hb (p + 1 + 1) (by omega)
    rw [numB_b0 2 (by omega), numB_2]
    exact lN_i16 (by unfold shB; omega)
  · obtain ⟨o1, o2⟩ := op_jmp (b p) (by omega) ⟨h1, h2⟩
    unfold opX
    rw [o2, if_neg (by simp), o1, numB_2]
  · have c2 : (if twoO (b p) = true then opB (b p) / 2 else opB (b p)) = 8 ∧ p + 1 + 8 ≤ len := by
      rcases hq with q | q | q
      · rw [q] at p3 ⊢; exact ⟨rfl, p3⟩
      · rw [q] at p3 ⊢
        have : p + 1 + 16 ≤ len := p3
        exact ⟨rfl, by omega⟩
      · rw [q] at p3 ⊢; exact ⟨rfl, p3⟩
    have ex : opX b p = numB b (p + 1) 8 := by
      unfold opX
      by_cases c : twoO (b p) = true
      · rw [if_pos c] at c2 ⊢; rw [c2.1]
      · rw [if_neg c] at c2 ⊢; rw [c2.1]
    rw [nI_1, show (8 : Int32) = nI 8 from rfl, h.num hF (by omega) (by omega), numB_b0 8 c2.2, ex]
  · have : p + 1 + 16 ≤ len := by rw [hq] at p3; exact p3
    have ey : opY b p = numB b (p + 1 + 8) 8 := by
      unfold opY
      rw [hq]; rfl
    rw [nI_1, show (8 : Int32) = nI 8 from rfl, nI_add, h.num hF (by omega) (by omega), numB_b0 8 (by omega), ey]
theorem CPr.cnI (hF : 100 ≤ F) (h : CPr sh n z kp kb b len M) {f : Nat} (hf : f < M.2.2.2.2.length) : CnI F sh n z kp (mdOf b M) f (plM M f) (abM b len M f) := by
  obtain ⟨p0, p1, p2, p3, p4, p5, p6, p7, p8⟩ := b_prog h.1.1 h.1.2.1
  have hg : f < M.2.2.2.2.length + M.2.2.1.length := by omega
  have tm := h.1.2.2.1
  obtain ⟨o1, o2, o3⟩ := offC_s M.2.2.2.2 hf
  obtain ⟨r0, r1, r2, r3, r4, r5, r6, r7, r8⟩ := tm.2.2.2.2.1 f hf
  have al := tm.2.2.2.2.2.2.2.2
  have tI := tm.2.2.2.2.2.2.1
  have rf : rowF M f = f := by unfold rowF; rw [if_pos hf]
  have cl : codeOf (mdOf b M) f = (M.2.2.2.2.getD f dGP).2.2.2.2.2.map (fun p => (b p, opX b p, opY b p)) := rfl
  refine ⟨?_, fun i o x y hi => ?_⟩
  · unfold fn_X5_instructions
    rw [p0, grd_true, h.1.fCol (c := 6) (ic := 6) rfl hg (by omega), cal_s, rf, r6, cl, List.length_map]
  · rw [cl, List.getElem?_map] at hi
    have il : i < (M.2.2.2.2.getD f dGP).2.2.2.2.2.length := by
      by_cases c : i < (M.2.2.2.2.getD f dGP).2.2.2.2.2.length
      · exact c
      · rw [List.getElem?_eq_none (by omega)] at hi; cases hi
    have ep2 : (M.2.2.2.2.getD f dGP).2.2.2.2.2[i]? = some (plM M f i) := getD_s il
    rw [ep2] at hi
    have hi' : some (b (plM M f i), opX b (plM M f i), opY b (plM M f i)) = some (o, x, y) := hi
    have ip : InP b len (plM M f i) := (h.1.2.2.2.2.2.2.2.2 _ (getD_m hf)).2.2.2.2.2.2.2 (plM M f i) (getD_m il)
    have rowp : z.1 (kp + 2) (offC M.2.2.2.2 f + i) = nI (plM M f i) := by rw [tI.2 _ (by omega), o3 i il]; rfl
    refine ⟨?_, ?_⟩
    · unfold fn_X5_instructionPlace
      rw [p0, grd_true, h.1.fCol (c := 5) (ic := 5) rfl hg (by omega), cal_s, rf, r5, lt_t, nI_add, if_neg (fun y => by have := (nIlt (x := 0) 0 rfl (by omega) (by omega)).mp y; omega), tI.1, if_pos ((nI_ltI (by omega) (by omega)).mpr (by omega)), p2, lnk_s, p6, okI_nI (by omega) (by omega), grd_true, nI_clamp (by omega), rowp]
    · cases hi'
      exact h.cIn hF ip
theorem nI_a2 : ∀ a, a < 16 → (a / 2 % 2 == 1) = true → ¬ (nI a &&& 2) = 0 := by decide
theorem CPr.cUn (hF : 300 ≤ F) (h : CPr sh n z kp kb b len M) (hj : jM b M = none) : CUn F sh n z kp (mdOf b M) (plM M) (abM b len M) := by
  obtain ⟨p0, _⟩ := b_prog h.1.1 h.1.2.1
  refine ⟨p0, h.1.2.2.1.1.1, fun f hf => h.cnI (by omega) hf, fun a ha => ⟨(h.1.takes h.hb ha).1, (h.1.takes h.hb ha).2.1⟩, fun a ha => h.1.fields ha, fun a ha => ?_, fun f hf => ?_⟩
  rotate_left
  · have fo := fnO_of h.hb h.1.2.2.2 hj hf
    have mo := mdO_of h.hb h.1.2.2.2 hj
    obtain ⟨c1, c2⟩ := h.1.cnB (F := F) h.hb hf
    refine ⟨c1, fun k hk => ?_⟩
    have tb := (fo.1 k hk).1
    exact ⟨tL ((locOf (mdOf b M) f).getD k []), nI (abT (mdOf b M) ((locOf (mdOf b M) f).getD k [])), c2 k hk, abilC_t hF tb.1 p0 (fun s q => ⟨h.1.ab (tb.2.2 s q), mo.1 s (tb.2.2 s q)⟩), fun hd => nI_a2 _ (abT_16 (fun s q => mo.1 s (tb.2.2 s q))) hd⟩
  obtain ⟨r0, r1, r2, r3, r4, r7, r8, r9⟩ := h.1.row h.hb ha
  rw [h.1.fCol (c := 7) (ic := 7) rfl ha (by omega), h.1.fCol (c := 8) (ic := 8) rfl ha (by omega), r7, r8]
  exact ⟨rfl, rfl⟩
theorem CPr.cnA (hF : 100 ≤ F) (h : CPr sh n z kp kb b len M) {f : Nat} (hf : f < M.2.2.2.2.length) : CnA F sh n z kp (mdOf b M) f (plM M f) (abM b len M f) := ⟨h.1.cnL h.hb, h.cnI hF hf, fun e => h.1.elT e⟩
/-- the class's looker looks at a program -/
theorem CPr.lookT (hF : 1100 ≤ F) (h : CPr sh n z kp kb b len M) (hk : 513 ≤ kb) (hj : jM b M = none) : ∃ z' v, fn_X3_look F sh n z 62 kp = some (z', v) ∧ LkV z' v 0 (lookA (mdOf b M) (fsOf (mdOf b M)) 0) ∧ FrA (sq z 62 2 (some kp)) z' := by
  have pn := isP_ne h.1.2.1
  refine lookC hF h.1.1 (pl := plM M) (ab := abM b len M) (fun z' f => ?_) (mdO_of h.hb h.1.2.2.2 hj) (by show M.2.2.2.2.length ≤ M.2.2.2.2.length + M.2.2.1.length; omega) h.1.2.2.2.2.2.2.2.1 (fun f hf => fnO_of h.hb h.1.2.2.2 hj hf)
  have e2 : ∀ k j, k ≠ 62 → z'.2.2 k j = z.2.2 k j := fun k j hk => by rw [f.1]; simp [sq, hk]
  have h' : CPr sh n z' kp kb b len M := by
    obtain ⟨⟨a1, a2, a3, a4⟩, h2, h3, h4, h5⟩ := h
    have L' : Lay sh n z' := (a1.sq (k := 62) (j := 2) (v := some kp) (by decide)).of f.1
    have g1 : ∀ k, k < 62 ∨ 72 < k → z'.1 k = z.1 k := fun k hk => (f.2 k hk).1
    have g2 : ∀ k, k < 62 ∨ 72 < k → z'.2.1 k = z.2.1 k := fun k hk => (f.2 k hk).2
    refine ⟨⟨L', a2, ?_, a4⟩, by rw [e2 kp 0 (by omega)]; exact h2, by rw [g1 kp (by omega)]; exact h3, h4, fun p hp => ?_⟩
    · obtain ⟨t1, t2, t3, t4, t5, t6, t7, t8, t9⟩ := a3
      refine ⟨by rw [g1 kp (by omega)]; exact t1, fun k hk => ?_, fun k hk => ?_, fun k hk => ?_, fun k hk => ?_, ?_, ?_, t8, t9⟩
      · have := t2 k hk; unfold SRo at this ⊢; rw [g1 (kp + 3) (by omega)]; exact this
      · have := t3 k hk; unfold FoR at this ⊢; rw [g1 (kp + 3) (by omega)]; exact this
      · have := t4 k hk; unfold CRo at this ⊢; rw [g1 (kp + 4) (by omega)]; exact this
      · have := t5 k hk; unfold GRo at this ⊢; rw [g1 (kp + 4) (by omega)]; exact this
      · unfold TyT at t6 ⊢; rw [g1 kp (by omega), g2 (kp + 1) (by omega)]; exact t6
      · unfold SrT at t7 ⊢; rw [g1 kp (by omega), g1 (kp + 2) (by omega)]; exact t7
    · rw [rb_fr (g1 kb (by omega))]
      exact h5 p hp
  exact ⟨⟨h'.1.2.2.1.1.2.2.2.1, (b_prog h'.1.1 h'.1.2.1).1⟩, fun f hf => ⟨h'.cnA (by omega) hf, h'.1.cnB h'.hb hf⟩⟩
end
