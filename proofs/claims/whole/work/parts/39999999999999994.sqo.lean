/-! A MODULE AS BYTES: the module of a picture; THE REFERENCE'S UNIT: its answers -/
def numB (b : Nat → Nat) (p : Nat) : Nat → Int64
  | 0 => 0
  | k + 1 => 256 * numB b p k + lN (b (p + k))
def twoO (o : Nat) : Bool := o == 16 || o == 17 || o == 52 || o == 7
def opX (b : Nat → Nat) (p : Nat) : Int64 := if twoO (b p) = true then numB b (p + 1) (opB (b p) / 2) else numB b (p + 1) (opB (b p))
def opY (b : Nat → Nat) (p : Nat) : Int64 := if twoO (b p) = true then numB b (p + 1 + opB (b p) / 2) (opB (b p) / 2) else 0
def dSP : SP := (0, 0, [])
def dCP : CP := (0, [], [])
def dGP : GP := (0, 0, [], [], [], [])
def shB (b : Nat → Nat) (p : Nat) : Nat := 256 * b p + b (p + 1)
def mdOf (b : Nat → Nat) (M : MP) : Md := ((shB b 4, M.1.length, M.1.length + M.2.1.length), (fun k => if k < M.1.length then b (M.1.getD k dSP).1 else b (M.2.1.getD (k - M.1.length) 0 + 3)), (fun k => (M.1.getD k dSP).2.2), (fun k => if k < M.1.length then 256 * shB b 4 + k else 256 * shB b (M.2.1.getD (k - M.1.length) 0) + b (M.2.1.getD (k - M.1.length) 0 + 2)), M.2.2.2.1.map (fun e => e.2), (M.2.2.2.2.length, M.2.2.2.2.length + M.2.2.1.length, fun f => if f < M.2.2.2.2.length then (b (M.2.2.2.2.getD f dGP).1, (M.2.2.2.2.getD f dGP).2.2.1, (M.2.2.2.2.getD f dGP).2.2.2.1, (M.2.2.2.2.getD f dGP).2.2.2.2.1) else (b ((M.2.2.1.getD (f - M.2.2.2.2.length) dCP).1 + 3), (M.2.2.1.getD (f - M.2.2.2.2.length) dCP).2.1, (M.2.2.1.getD (f - M.2.2.2.2.length) dCP).2.2, [])), (fun f => 256 * shB b (M.2.2.1.getD (f - M.2.2.2.2.length) dCP).1 + b ((M.2.2.1.getD (f - M.2.2.2.2.length) dCP).1 + 2)), fun f => (M.2.2.2.2.getD f dGP).2.2.2.2.2.map (fun p => (b p, opX b p, opY b p)))
theorem getD_m {α : Type} {l : List α} {d : α} {k : Nat} (h : k < l.length) : l.getD k d ∈ l := by
  rw [List.getD_eq_getElem?_getD, List.getElem?_eq_getElem h]; exact List.getElem_mem h
theorem getD_d {α : Type} {l : List α} {d e : α} {k : Nat} (h : k < l.length) : l.getD k d = l.getD k e := by
  rw [List.getD_eq_getElem?_getD, List.getD_eq_getElem?_getD, List.getElem?_eq_getElem h]; rfl
/-- the reference's unit holds a module -/
def UM (sh : Nat → Nat × Nat) (n : Nat) (z : St) (ku : Nat) (b : Nat → Nat) (len : Nat) (M : MP) : Prop := UB sh n z ku b len ∧ TMu z ku M ∧ PicOk b len M
theorem AtL.nth {b : Nat → Nat} {len : Nat} {rf : Bool} : ∀ (ts : List Ty) (p i : Nat), AtL b len rf p ts → i < ts.length → RdT b len (endL p (ts.take i)) rf (ts.getD i [], endL p (ts.take i) + (ts.getD i []).length) ∧ endL p (ts.take (i + 1)) = endL p (ts.take i) + (ts.getD i []).length
  | [], _, _, _, h => absurd h (by simp)
  | t :: ts, p, 0, h, _ => ⟨h.1, rfl⟩
  | t :: ts, p, i + 1, h, hi => AtL.nth ts (p + t.length) i h.2 (by simpa using hi)
theorem AtL.lt {b : Nat → Nat} {len : Nat} {rf : Bool} {ts : List Ty} {p i : Nat} (h : AtL b len rf p ts) (hp : p ≤ len) (hi : i ≤ ts.length) : endL p (ts.take i) ≤ len := by
  cases i with
  | zero => exact hp
  | succ i =>
    obtain ⟨r, e⟩ := AtL.nth ts p i h (by omega)
    rw [e]; exact r.2.2.1
section
variable {F n : Nat} {sh : Nat → Nat × Nat} {z z' : St} {ku len : Nat} {b : Nat → Nat} {M : MP}
/-- past i types -/
theorem UB.fieldL (hF : 300 ≤ F) (h : UB sh n z ku b len) {ts : List Ty} {p : Nat} {rf : Bool} (ha : AtL b len rf p ts) (hp : p ≤ len) {i : Nat} (hi : i < ts.length) (h31 : ts.length < 256) : fn_X16_field_L12 F sh n (nI i) ku F z (nI p) 0 = some (z, tL (ts.getD i [])) ∧ fn_X16_listed_L13 F sh n (nI i) ku F z (nI p) 0 = some (z, tL (ts.getD i [])) := by
  have l8 := h.2.2.2.1
  have lp : ∀ m k g, k + m = i → m < g → fn_X16_field_L12 F sh n (nI i) ku g z (nI (endL p (ts.take k))) (nI k) = some (z, tL (ts.getD i [])) ∧ fn_X16_listed_L13 F sh n (nI i) ku g z (nI (endL p (ts.take k))) (nI k) = some (z, tL (ts.getD i [])) := by
    intro m
    induction m with
    | zero =>
      intro k g ek hg
      obtain ⟨g, rfl⟩ : ∃ q, g = q + 1 := ⟨g - 1, by omega⟩
      have ek' : k = i := by omega
      subst ek'
      have r := (AtL.nth ts p k ha hi).1
      unfold fn_X16_field_L12 fn_X16_listed_L13
      rw [if_pos ((nI_leI (by omega) (by omega)).mpr (by omega)), if_pos ((nI_leI (by omega) (by omega)).mpr (by omega)), h.tyAt hF r, cal_s]
      exact ⟨rfl, rfl⟩
    | succ m ih =>
      intro k g ek hg
      obtain ⟨g, rfl⟩ : ∃ q, g = q + 1 := ⟨g - 1, by omega⟩
      obtain ⟨r, e⟩ := AtL.nth ts p k ha (by omega)
      obtain ⟨i1, i2⟩ := ih (k + 1) g (by omega) (by omega)
      rw [e] at i1 i2
      unfold fn_X16_field_L12 fn_X16_listed_L13
      rw [if_neg (fun x => by have := (nI_leI (by omega) (by omega)).mp x; omega), if_neg (fun x => by have := (nI_leI (by omega) (by omega)).mp x; omega), (h.tyEnd (F := F) hF r).1, cal_s, cal_s, nI_1]
      exact ⟨i1, i2⟩
  exact lp i 0 F (by omega) (by omega)
theorem UB.listEnd (hF : 300 ≤ F) (h : UB sh n z ku b len) {ts : List Ty} {p : Nat} (hl : Lst b len p ts) : fn_X16_listEnd F sh n z ku (nI p) = some (z, nI (endL (p + 1) ts)) := by
  have l8 := h.2.2.2.1
  obtain ⟨h1, h2, h3, h4⟩ := hl
  have lp : ∀ m k g, k + m = ts.length → m < g → fn_X16_listEnd_L13 F sh n (nI ts.length) ku g z (nI (endL (p + 1) (ts.take k))) (nI k) = some (z, nI (endL (p + 1) ts)) := by
    intro m
    induction m with
    | zero =>
      intro k g ek hg
      obtain ⟨g, rfl⟩ : ∃ q, g = q + 1 := ⟨g - 1, by omega⟩
      unfold fn_X16_listEnd_L13
      rw [if_pos ((nI_leI (by omega) (by omega)).mpr (by omega)), List.take_of_length_le (by omega)]
    | succ m ih =>
      intro k g ek hg
      obtain ⟨g, rfl⟩ : ∃ q, g = q + 1 := ⟨g - 1, by omega⟩
      obtain ⟨r, e⟩ := AtL.nth ts (p + 1) k h4 (by omega)
      have i1 := ih (k + 1) g (by omega) (by omega)
      rw [e] at i1
      unfold fn_X16_listEnd_L13
      rw [if_neg (fun x => by have := (nI_leI (by omega) (by omega)).mp x; omega), (h.tyEnd (F := F) hF r).1, cal_s, nI_1]
      exact i1
  unfold fn_X16_listEnd
  rw [h.o, grd_true, h.byte h1, cal_s, nI_1, lt_t, h2]
  exact lp ts.length 0 F (by omega) (by omega)
end
