/-! BOTH MACHINES SIDE BY SIDE: the world of modules; one step -/
abbrev fsOf (U : Md) : Nat := U.2.2.2.2.2.1.1
abbrev faOf (U : Md) : Nat := U.2.2.2.2.2.1.2.1
abbrev whoOf (U : Md) (a : Nat) : Nat := U.2.2.2.2.2.2.1 a
/-- what the reference's machine leaves as it is, steps over steps -/
def FrB (z z' : St) : Prop := (∀ k j, k ≠ 337 ∨ j ≠ 48 → z'.2.2 k j = z.2.2 k j) ∧ (∀ k, k ≠ 337 → ¬ mcl k → z'.1 k = z.1 k ∧ z'.2.1 k = z.2.1 k) ∧ ∀ j, ¬ mfl j → z'.1 337 j = z.1 337 j ∧ z'.2.1 337 j = z.2.1 337 j
theorem FrB.rfl' {z : St} : FrB z z := ⟨fun _ _ _ => rfl, fun _ _ _ => ⟨rfl, rfl⟩, fun _ _ => ⟨rfl, rfl⟩⟩
theorem FrB.trans {z z' z'' : St} (h : FrB z z') (g : FrB z' z'') : FrB z z'' := ⟨fun k j a => (g.1 k j a).trans (h.1 k j a), fun k a b => ⟨(g.2.1 k a b).1.trans (h.2.1 k a b).1, (g.2.1 k a b).2.trans (h.2.1 k a b).2⟩, fun j a => ⟨(g.2.2 j a).1.trans (h.2.2 j a).1, (g.2.2 j a).2.trans (h.2.2 j a).2⟩⟩
theorem FrR.b {z z' : St} (h : FrR z z') : FrB z z' := ⟨fun k j _ => by rw [h.1], h.2⟩
theorem FrB.lk {z : St} {o : Option Nat} : FrB z (sq z 337 48 o) := by
  refine ⟨fun k j a => ?_, fun _ _ _ => ⟨rfl, rfl⟩, fun _ _ => ⟨rfl, rfl⟩⟩
  show (if k = 337 then (if j = 48 then o else z.2.2 337 j) else z.2.2 k j) = z.2.2 k j
  by_cases q : k = 337
  · rw [if_pos q, if_neg (by omega), q]
  · rw [if_neg q]
theorem RLg.keepB {z z' : St} {nc : Nat} {ac : Nat → Int64 × Int64 × Int64} {nr : Nat} {rs : Nat → Int64 × Nat × Hp × Nat} (h : RLg z nc ac nr rs) (f : FrB z z') : RLg z' nc ac nr rs := h.keep (z' := (z'.1, z'.2.1, z.2.2)) ⟨rfl, f.2⟩
/-- the reference's reading of a module -/
def RUn (F : Nat) (sh : Nat → Nat × Nat) (n : Nat) (z : St) (ku : Nat) (U : Md) : Prop := okO sh n ku 16 = true ∧ z.1 ku 9 = nI (fsOf U) ∧ (∀ f, f < fsOf U → fn_X16_instructions F sh n z ku (nI f) = some (z, nI (codeOf U f).length) ∧ ∀ i o x y, (codeOf U f)[i]? = some (o, x, y) → fn_X16_operation F sh n z ku (nI f) (nI i) = some (z, nI o) ∧ fn_X16_operand F sh n z ku (nI f) (nI i) 0 = some (z, x) ∧ fn_X16_operand F sh n z ku (nI f) (nI i) 1 = some (z, y)) ∧ (∀ a, a < faOf U → fn_X16_many F sh n z ku (nI a) 0 = some (z, nI (tksOf U a).length) ∧ fn_X16_many F sh n z ku (nI a) 1 = some (z, nI (gvsOf U a).length)) ∧ (∀ a, a < U.1.2.1 → fn_X16_fieldsOf F sh n z ku (nI a) = some (z, nI (fdsOf U a).length) ∧ fn_X16_identity F sh n z ku (nI a) = some (z, nI (U.2.2.2.1 a))) ∧ ∀ a, fsOf U ≤ a → a < faOf U → fn_X16_foreignNumber F sh n z ku (nI a) = some (z, nI (whoOf U a % 256)) ∧ fn_X16_foreignModule F sh n z ku (nI a) = some (z, nI (whoOf U a / 256))
/-- the class's reading of an instruction -/
def CIn (F : Nat) (sh : Nat → Nat × Nat) (n : Nat) (z : St) (p w o a0 : Nat) (x y : Int64) : Prop := fn_X5_at F sh n z p (nI w) = some (z, nI o) ∧ (fn_X5_at F sh n z p (nI w + 1) = some (z, nI a0) ∧ a0 < 256 ∧ (o = 5 ∨ (11 ≤ o ∧ o ≤ 17) ∨ (21 ≤ o ∧ o ≤ 23) ∨ (47 ≤ o ∧ o ≤ 58) → x = lN a0)) ∧ (∃ b1, fn_X5_at F sh n z p (nI w + 2) = some (z, b1) ∧ (o = 16 ∨ o = 17 ∨ o = 52 → ∃ b, b < 256 ∧ y = lN b ∧ b1 = nI b)) ∧ (∃ r, fn_X5_numberAt F sh n z p (nI w + 1) 2 = some (z, r) ∧ (2 ≤ o → o < 5 → ∃ to, to < 65536 ∧ r.toInt32 = nI to ∧ x = lN to)) ∧ (o = 6 ∨ o = 7 ∨ o = 10 → fn_X5_numberAt F sh n z p (nI w + 1) 8 = some (z, x)) ∧ (o = 7 → fn_X5_numberAt F sh n z p (nI w + 1 + 8) 8 = some (z, y))
/-- the class's reading of a module -/
def CUn (F : Nat) (sh : Nat → Nat × Nat) (n : Nat) (z : St) (p : Nat) (U : Md) (pl ab : Nat → Nat → Nat) : Prop := okO sh n p 5 = true ∧ z.1 p 2 = nI U.1.1 ∧ (∀ f, f < fsOf U → fn_X5_instructions F sh n z p (nI f) = some (z, nI (codeOf U f).length) ∧ ∀ i o x y, (codeOf U f)[i]? = some (o, x, y) → fn_X5_instructionPlace F sh n z p (nI f) (nI i) = some (z, nI (pl f i)) ∧ CIn F sh n z p (pl f i) o (ab f i) x y) ∧ (∀ a, a < faOf U → fn_X5_takes F sh n z p (nI a) = some (z, nI (tksOf U a).length) ∧ fn_X5_gives F sh n z p (nI a) = some (z, nI (gvsOf U a).length)) ∧ (∀ a, a < U.1.2.1 → fn_X5_fieldCount F sh n z p (nI a) = some (z, nI (fdsOf U a).length)) ∧ ∀ a, a < faOf U → fn_X5_functionColumn F sh n z p (nI a) 7 = some (z, nI (if a < fsOf U then U.1.1 else whoOf U a / 256)) ∧ fn_X5_functionColumn F sh n z p (nI a) 8 = some (z, nI (if a < fsOf U then a else whoOf U a % 256))
/-- operands name what is there -/
def InOk (U : Md) (f o a b : Nat) : Prop := o ≤ 59 ∧ (11 ≤ o → o ≤ 15 → a < (locOf U f).length) ∧ (o = 16 ∨ o = 17 → a < U.1.2.1 ∧ b < (fdsOf U a).length) ∧ (o = 21 ∨ o = 22 → a < U.1.2.1) ∧ (47 ≤ o → o ≤ 51 → a < U.1.2.1) ∧ (o = 23 → a < faOf U) ∧ (52 ≤ o → o ≤ 58 → a < (elsOf U).length)
/-- an import and what it names -/
def LkF (U U' : Md) (a f' : Nat) : Prop := f' < fsOf U' ∧ (resOf U' f' = true → resOf U a = true) ∧ (tksOf U' f').length = (tksOf U a).length ∧ (∀ k, k < (tksOf U a).length → TyS U U' ((tksOf U a).getD k []) ((tksOf U' f').getD k [])) ∧ (gvsOf U a).length = (gvsOf U' f').length ∧ ∀ k, k < (gvsOf U a).length → TyS U U' ((gvsOf U a).getD k []) ((gvsOf U' f').getD k [])
/-- the world of modules -/
def Wld (E : Ev) (Ms : Nat → Option Md) (Ce : Nat → Nat → Nat → Lks) : Prop := ∀ u U, Ms u = some U → u < 10 ∧ UOk E u U ∧ (0 < U.1.1 ∧ U.1.1 < 65536 ∧ fsOf U ≤ faOf U ∧ faOf U < 65536) ∧ (∀ a, a < U.1.2.1 → U.2.2.2.1 a = 256 * U.1.1 + a ∧ a < 256) ∧ (∀ a, a < faOf U → (tksOf U a).length ≤ 8 ∧ ∀ t, t ∈ gvsOf U a → STy U.1.2.2 t) ∧ (∀ f, f < fsOf U → Cert U f (Ce u f) ∧ (∀ i, N63 (Ce u f i)) ∧ (locOf U f).length ≤ 40 ∧ (codeOf U f).length < 65536 ∧ (∀ k, k < (locOf U f).length → STy U.1.2.2 ((locOf U f).getD k [])) ∧ ∀ (i o : Nat) (x y : Int64), (codeOf U f)[i]? = some (o, x, y) → InOk U f o x.toInt.toNat y.toInt.toNat) ∧ ∀ a, fsOf U ≤ a → a < faOf U → (whoOf U a / 256 = 0 ∧ ∃ k, CoinSig U a k (whoOf U a % 256) ∧ PT U.1.2.2 [6, k] ∧ U.2.2.2.1 k = 0) ∨ ∃ u' U', Ms u' = some U' ∧ U'.1.1 = whoOf U a / 256 ∧ LkF U U' a (whoOf U a % 256)
/-- both tables hold the world -/
def Dy (F : Nat) (sh : Nat → Nat × Nat) (n : Nat) (z0 y0 : St) (kr pk : Nat → Nat) (Ms : Nat → Option Md) : Prop := ∀ u U, Ms u = some U → z0.2.2 341 u = some (kr u) ∧ (∀ z', FrB z0 z' → RUn F sh n z' (kr u) U ∧ fn_X18_findModule F sh n z' 337 (nI U.1.1) = some (z', nI u)) ∧ ∃ pl ab, ∀ z', FrX y0 z' → CUn F sh n z' (pk u) U pl ab ∧ fn_X7_findProgram F sh n z' 3 (nI U.1.1) = some (z', some (pk u))
/-- the frames, each with what looking knows of it -/
def Fi (Ms : Nat → Option Md) (Ce : Nat → Nat → Nat → Lks) (fr : Nat → Fm) (nf na : Nat) (ak : Nat → Ask) : Prop := (∃ U, Ms (fr (nf - 1)).1.1 = some U ∧ (fr (nf - 1)).1.2.1 < fsOf U ∧ (fr (nf - 1)).1.2.2 < (codeOf U (fr (nf - 1)).1.2.1).length ∧ FM U (locOf U (fr (nf - 1)).1.2.1) (fr (nf - 1)) (Ce (fr (nf - 1)).1.1 (fr (nf - 1)).1.2.1 (fr (nf - 1)).1.2.2)) ∧ (∀ d, d + 1 < nf → ∃ U U' gv L', Ms (fr d).1.1 = some U ∧ (fr d).1.2.1 < fsOf U ∧ Ms (fr (d + 1)).1.1 = some U' ∧ (fr d).1.2.2 < (codeOf U (fr d).1.2.1).length ∧ Waits U (locOf U (fr d).1.2.1) (fr d) L' gv ∧ leL (locOf U (fr d).1.2.1).length L' (Ce (fr d).1.1 (fr d).1.2.1 (fr d).1.2.2) ∧ gv.length = (gvsOf U' (fr (d + 1)).1.2.1).length ∧ ∀ k, k < gv.length → TyS U U' (gv.getD k []) ((gvsOf U' (fr (d + 1)).1.2.1).getD k [])) ∧ ∀ d, d < nf → ∀ U, Ms (fr d).1.1 = some U → AskM na ak U.1.1
/-- the call is done on both sides -/
def Done (E : Ev) (sh : Nat → Nat × Nat) (n : Nat) (sl0 : Int32) (zr zc : St) (na : Nat) (ak : Nat → Ask) (g : Nat) : Prop := ∃ H m ty fr nf Hc mc phi Rn cn ws, RS sh n zr H m na ak g ∧ CE sh n zc 0 0 g ∧ HC zc Hc mc sl0 ∧ CJ zc na ak cn ws ∧ MJ E H m ty fr nf na ak (fun _ => none) ∧ RC H ty phi Rn Hc ∧ NoA ty H ∧ (∀ j, j < na → (ak j).1 = 3 → (ak j).2.2.2.2.1 = true → cn j = phi (ak j).2.2.2.2.2) ∧ m ≤ 8 + g + 64 * na ∧ mc ≤ 9 + g + 64 * na
section
variable {E : Ev} {F n : Nat} {sh : Nat → Nat × Nat} {pk : Nat → Nat} {kt : Nat} {sl0 : Int32} {lim : Nat} {zr zc zr' zc' : St} {H : Hp} {m : Nat} {ty : Nat → Nat} {fr : Nat → Fm} {nf na : Nat} {ak : Nat → Ask} {g : Nat} {Hc : Hp} {mc : Nat} {phi : Nat → Nat} {Rn : Nat → Option Nat} {cs cl : Nat → Nat → Nat} {cn : Nat → Nat} {ws : Nat → Bool}
def nxF (x : Fm) (i : Nat) : Fm := ((x.1.1, x.1.2.1, i), x.2.1, x.2.2.1, x.2.2.2)
/-- an instruction was fetched -/
theorem Sm.next (h : Sm E sh n pk kt sl0 lim 0 zr zc H m ty fr nf na ak g Hc mc phi Rn cs cl cn ws) {i : Nat} (rm : RM sh n zr' H m (setF fr (nf - 1) (nxF (fr (nf - 1)) i)) nf na ak (g + 1) lim) (cm : CM sh n zc' pk kt Hc mc sl0 (setF fr (nf - 1) (nxF (fr (nf - 1)) i)) cs cl nf (g + 1) lim) (f2 : FrC zc zc') : Sm E sh n pk kt sl0 lim 1 zr' zc' H m ty (setF fr (nf - 1) (nxF (fr (nf - 1)) i)) nf na ak (g + 1) Hc mc phi Rn cs cl cn ws := by
  obtain ⟨I, _, cm0, cj, r, sr, an, na2, rn, rm1, rm2⟩ := h
  refine ⟨I.fcong (fun d => ?_), rm, cm, cj.fc f2, r, sr.drp (a := (fr (nf - 1)).2.2.1.1) rfl (Nat.le_refl _) (fun x d k t c w _ => sr.1 _ _ _ _ _ w), an, na2, rn, by omega, by omega⟩
  by_cases q : d = nf - 1
  · subst q; rw [setF_s]; exact ⟨⟨rfl, rfl⟩, rfl, rfl, fun _ _ => rfl, rfl⟩
  · rw [setF_n q]; exact ⟨⟨rfl, rfl⟩, rfl, rfl, fun _ _ => rfl, rfl⟩
end
