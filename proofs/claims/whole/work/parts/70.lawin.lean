-- ===== end of PART A; then your names; then what follows =====
/-! THE CLAIM OUT OF ONE WALK OF THE LAW'S BODY. Your part is whole_start (and what it stands on); all else here is the same for every law, but numbers. -/
def R_law : String := "ResourceLedgerLaw"
def lw_P (b : Addr) (xs : List Int32) (args : Array Value) (s : State) : Prop := args = #[.ref b] ∧ s.IntsAt b xs ∧ xs.length ≤ 4097 ∧ (Jvm.Cond.and given_1 narrow_1).before args s = true
def lw_Q (_ : Array Value) (s : State) (o : Outcome) (t : State) : Prop := o = .returned (some (.int 1)) ∧ Framed s o t [] room_1.cells room_1.slots
def lw_Z (below : List Frame) (a : Array Value) (s : State) : State → Prop := fun t => ∃ o, t.status = .running ∧ Ended t below o ∧ lw_Q a s o t
/-- the law's own end, with 1 on the stack, nothing written that was there before, its room as the claim has it -/
theorem lw_ret {p : Program} {l : Launch} {e : Env} {s : State} {m : MethodId} {below : List Frame} {meth : Method} {c : Code} {b : Nat} (hx : p.tables.exec = Jvm.exec) (hb : c.code = code) (hr : meth.sig.returnType = ret) (hlocks : meth.locks = false) {pc : Nat} {H : Heap} {ls : Array Slot} (hdg : decode code pc = .ok (.ireturn, 1)) : W p l e room_1 s m #[Value.ref b] below meth c H [] room_1.cells room_1.slots (lw_Z below #[Value.ref b] s) (F0 m pc ls [.int 1]) := by
  intro T hT X
  obtain ⟨fs, hret, hrun, hended, hW, hframe⟩ := X.leave (v := some (.int 1)) (hlocks := hlocks) (fun h => by rw [hr] at h; cases h)
  have hmeth' : T.vm.method? m = some meth := X.method'
  refine ⟨T.setFrames fs, ?_, .returned (some (.int 1)), hrun, hended, rfl, ⟨_, rfl⟩, hW, hframe⟩
  jvm_step X.here [X.here.top, hx, hb, hdg, hmeth', hr, ret, narrow_b1]
  (try refine ⟨rfl, ?_⟩); (try refine ⟨rfl, ?_⟩)
  first | (intro acts; rw [hret _ acts rfl rfl rfl]) | rw [hret _ _ rfl rfl rfl]
  exact Steps.refl _
/-- what holds at the law's entry: the machine, the code, the tables' words (any of lw_tbl by 'hts w (by decide +kernel)'), the script of L ints xs at the cell b, what the Statement gives of the start (any of its parts by flat_of_before) -/
def lw_At (p : Program) (s : State) (m : MethodId) (meth : Method) (c : Code) (b L : Nat) (xs : Nat → Int32) : Prop :=
  p.tables.exec = Jvm.exec ∧ c.code = code ∧ meth.sig.returnType = ret ∧ c.maxLocals = 4 ∧ s.vm.findClass R_law = some m.cls ∧ (∀ w ∈ lw_tbl, w.before #[Value.ref b] s = true) ∧ va_X b L xs s s.heap ∧ b < s.heap.size ∧ meth.locks = false ∧ (Jvm.Cond.and given_1 narrow_1).before #[Value.ref b] s = true
set_option maxRecDepth 100000 in
theorem el_COIN_BYTES {args : Array Value} {s : State} (hs : ∀ w ∈ flatC (Jvm.Cond.and given_1 narrow_1), w.before args s = true) : ∀ j : Nat, j < 81 → (Term.elem (Term.static "ResourceLedger$Program" "COIN_BYTES" "[B") (.int (Int32.ofNat j))).eval args s none [] s = some (.int (fs_COIN j)) := by
  intro j hj
  match j, hj with
  | 0, _ => exact va_eqt (z := 82) (hs _ (by decide +kernel))
  | 1, _ => exact va_eqt (z := 76) (hs _ (by decide +kernel))
  | 2, _ => exact va_eqt (z := 77) (hs _ (by decide +kernel))
  | 3, _ => exact va_eqt (z := 49) (hs _ (by decide +kernel))
  | 4, _ => exact va_eqt (z := 0) (hs _ (by decide +kernel))
  | 5, _ => exact va_eqt (z := 0) (hs _ (by decide +kernel))
  | 6, _ => exact va_eqt (z := 1) (hs _ (by decide +kernel))
  | 7, _ => exact va_eqt (z := 4) (hs _ (by decide +kernel))
  | 8, _ => exact va_eqt (z := 1) (hs _ (by decide +kernel))
  | 9, _ => exact va_eqt (z := 3) (hs _ (by decide +kernel))
  | 10, _ => exact va_eqt (z := 0) (hs _ (by decide +kernel))
  | 11, _ => exact va_eqt (z := 0) (hs _ (by decide +kernel))
  | 12, _ => exact va_eqt (z := 0) (hs _ (by decide +kernel))
  | 13, _ => exact va_eqt (z := 6) (hs _ (by decide +kernel))
  | 14, _ => exact va_eqt (z := 1) (hs _ (by decide +kernel))
  | 15, _ => exact va_eqt (z := 1) (hs _ (by decide +kernel))
  | 16, _ => exact va_eqt (z := 3) (hs _ (by decide +kernel))
  | 17, _ => exact va_eqt (z := 1) (hs _ (by decide +kernel))
  | 18, _ => exact va_eqt (z := 6) (hs _ (by decide +kernel))
  | 19, _ => exact va_eqt (z := 0) (hs _ (by decide +kernel))
  | 20, _ => exact va_eqt (z := 0) (hs _ (by decide +kernel))
  | 21, _ => exact va_eqt (z := 0) (hs _ (by decide +kernel))
  | 22, _ => exact va_eqt (z := 1) (hs _ (by decide +kernel))
  | 23, _ => exact va_eqt (z := 35) (hs _ (by decide +kernel))
  | 24, _ => exact va_eqt (z := 1) (hs _ (by decide +kernel))
  | 25, _ => exact va_eqt (z := 2) (hs _ (by decide +kernel))
  | 26, _ => exact va_eqt (z := 5) (hs _ (by decide +kernel))
  | 27, _ => exact va_eqt (z := 6) (hs _ (by decide +kernel))
  | 28, _ => exact va_eqt (z := 0) (hs _ (by decide +kernel))
  | 29, _ => exact va_eqt (z := 0) (hs _ (by decide +kernel))
  | 30, _ => exact va_eqt (z := 0) (hs _ (by decide +kernel))
  | 31, _ => exact va_eqt (z := 0) (hs _ (by decide +kernel))
  | 32, _ => exact va_eqt (z := 1) (hs _ (by decide +kernel))
  | 33, _ => exact va_eqt (z := 35) (hs _ (by decide +kernel))
  | 34, _ => exact va_eqt (z := 1) (hs _ (by decide +kernel))
  | 35, _ => exact va_eqt (z := 1) (hs _ (by decide +kernel))
  | 36, _ => exact va_eqt (z := 8) (hs _ (by decide +kernel))
  | 37, _ => exact va_eqt (z := 6) (hs _ (by decide +kernel))
  | 38, _ => exact va_eqt (z := 0) (hs _ (by decide +kernel))
  | 39, _ => exact va_eqt (z := 1) (hs _ (by decide +kernel))
  | 40, _ => exact va_eqt (z := 3) (hs _ (by decide +kernel))
  | 41, _ => exact va_eqt (z := 0) (hs _ (by decide +kernel))
  | 42, _ => exact va_eqt (z := 0) (hs _ (by decide +kernel))
  | 43, _ => exact va_eqt (z := 1) (hs _ (by decide +kernel))
  | 44, _ => exact va_eqt (z := 35) (hs _ (by decide +kernel))
  | 45, _ => exact va_eqt (z := 1) (hs _ (by decide +kernel))
  | 46, _ => exact va_eqt (z := 2) (hs _ (by decide +kernel))
  | 47, _ => exact va_eqt (z := 6) (hs _ (by decide +kernel))
  | 48, _ => exact va_eqt (z := 0) (hs _ (by decide +kernel))
  | 49, _ => exact va_eqt (z := 6) (hs _ (by decide +kernel))
  | 50, _ => exact va_eqt (z := 0) (hs _ (by decide +kernel))
  | 51, _ => exact va_eqt (z := 1) (hs _ (by decide +kernel))
  | 52, _ => exact va_eqt (z := 6) (hs _ (by decide +kernel))
  | 53, _ => exact va_eqt (z := 0) (hs _ (by decide +kernel))
  | 54, _ => exact va_eqt (z := 0) (hs _ (by decide +kernel))
  | 55, _ => exact va_eqt (z := 0) (hs _ (by decide +kernel))
  | 56, _ => exact va_eqt (z := 1) (hs _ (by decide +kernel))
  | 57, _ => exact va_eqt (z := 35) (hs _ (by decide +kernel))
  | 58, _ => exact va_eqt (z := 1) (hs _ (by decide +kernel))
  | 59, _ => exact va_eqt (z := 2) (hs _ (by decide +kernel))
  | 60, _ => exact va_eqt (z := 6) (hs _ (by decide +kernel))
  | 61, _ => exact va_eqt (z := 0) (hs _ (by decide +kernel))
  | 62, _ => exact va_eqt (z := 3) (hs _ (by decide +kernel))
  | 63, _ => exact va_eqt (z := 2) (hs _ (by decide +kernel))
  | 64, _ => exact va_eqt (z := 6) (hs _ (by decide +kernel))
  | 65, _ => exact va_eqt (z := 0) (hs _ (by decide +kernel))
  | 66, _ => exact va_eqt (z := 6) (hs _ (by decide +kernel))
  | 67, _ => exact va_eqt (z := 0) (hs _ (by decide +kernel))
  | 68, _ => exact va_eqt (z := 0) (hs _ (by decide +kernel))
  | 69, _ => exact va_eqt (z := 0) (hs _ (by decide +kernel))
  | 70, _ => exact va_eqt (z := 1) (hs _ (by decide +kernel))
  | 71, _ => exact va_eqt (z := 35) (hs _ (by decide +kernel))
  | 72, _ => exact va_eqt (z := 1) (hs _ (by decide +kernel))
  | 73, _ => exact va_eqt (z := 1) (hs _ (by decide +kernel))
  | 74, _ => exact va_eqt (z := 5) (hs _ (by decide +kernel))
  | 75, _ => exact va_eqt (z := 1) (hs _ (by decide +kernel))
  | 76, _ => exact va_eqt (z := 3) (hs _ (by decide +kernel))
  | 77, _ => exact va_eqt (z := 0) (hs _ (by decide +kernel))
  | 78, _ => exact va_eqt (z := 0) (hs _ (by decide +kernel))
  | 79, _ => exact va_eqt (z := 1) (hs _ (by decide +kernel))
  | 80, _ => exact va_eqt (z := 35) (hs _ (by decide +kernel))
  | j + 81, h => exact absurd h (Nat.not_lt.mpr (Nat.le_add_left _ _))
set_option maxRecDepth 100000 in
theorem el_FIRST {args : Array Value} {s : State} (hs : ∀ w ∈ flatC (Jvm.Cond.and given_1 narrow_1), w.before args s = true) : ∀ j : Nat, j < 8 → (Term.elem (Term.static "ResourceLedger$Digest" "FIRST" "[I") (.int (Int32.ofNat j))).eval args s none [] s = some (.int (fs_FIRST j)) := by
  intro j hj
  match j, hj with
  | 0, _ => exact va_eqt (z := 1779033703) (hs _ (by decide +kernel))
  | 1, _ => exact va_eqt (z := (-1150833019)) (hs _ (by decide +kernel))
  | 2, _ => exact va_eqt (z := 1013904242) (hs _ (by decide +kernel))
  | 3, _ => exact va_eqt (z := (-1521486534)) (hs _ (by decide +kernel))
  | 4, _ => exact va_eqt (z := 1359893119) (hs _ (by decide +kernel))
  | 5, _ => exact va_eqt (z := (-1694144372)) (hs _ (by decide +kernel))
  | 6, _ => exact va_eqt (z := 528734635) (hs _ (by decide +kernel))
  | 7, _ => exact va_eqt (z := 1541459225) (hs _ (by decide +kernel))
  | j + 8, h => exact absurd h (Nat.not_lt.mpr (Nat.le_add_left _ _))
set_option maxRecDepth 100000 in
theorem el_K {args : Array Value} {s : State} (hs : ∀ w ∈ flatC (Jvm.Cond.and given_1 narrow_1), w.before args s = true) : ∀ j : Nat, j < 64 → (Term.elem (Term.static "ResourceLedger$Digest" "K" "[I") (.int (Int32.ofNat j))).eval args s none [] s = some (.int (fs_K j)) := by
  intro j hj
  match j, hj with
  | 0, _ => exact va_eqt (z := 1116352408) (hs _ (by decide +kernel))
  | 1, _ => exact va_eqt (z := 1899447441) (hs _ (by decide +kernel))
  | 2, _ => exact va_eqt (z := (-1245643825)) (hs _ (by decide +kernel))
  | 3, _ => exact va_eqt (z := (-373957723)) (hs _ (by decide +kernel))
  | 4, _ => exact va_eqt (z := 961987163) (hs _ (by decide +kernel))
  | 5, _ => exact va_eqt (z := 1508970993) (hs _ (by decide +kernel))
  | 6, _ => exact va_eqt (z := (-1841331548)) (hs _ (by decide +kernel))
  | 7, _ => exact va_eqt (z := (-1424204075)) (hs _ (by decide +kernel))
  | 8, _ => exact va_eqt (z := (-670586216)) (hs _ (by decide +kernel))
  | 9, _ => exact va_eqt (z := 310598401) (hs _ (by decide +kernel))
  | 10, _ => exact va_eqt (z := 607225278) (hs _ (by decide +kernel))
  | 11, _ => exact va_eqt (z := 1426881987) (hs _ (by decide +kernel))
  | 12, _ => exact va_eqt (z := 1925078388) (hs _ (by decide +kernel))
  | 13, _ => exact va_eqt (z := (-2132889090)) (hs _ (by decide +kernel))
  | 14, _ => exact va_eqt (z := (-1680079193)) (hs _ (by decide +kernel))
  | 15, _ => exact va_eqt (z := (-1046744716)) (hs _ (by decide +kernel))
  | 16, _ => exact va_eqt (z := (-459576895)) (hs _ (by decide +kernel))
  | 17, _ => exact va_eqt (z := (-272742522)) (hs _ (by decide +kernel))
  | 18, _ => exact va_eqt (z := 264347078) (hs _ (by decide +kernel))
  | 19, _ => exact va_eqt (z := 604807628) (hs _ (by decide +kernel))
  | 20, _ => exact va_eqt (z := 770255983) (hs _ (by decide +kernel))
  | 21, _ => exact va_eqt (z := 1249150122) (hs _ (by decide +kernel))
  | 22, _ => exact va_eqt (z := 1555081692) (hs _ (by decide +kernel))
  | 23, _ => exact va_eqt (z := 1996064986) (hs _ (by decide +kernel))
  | 24, _ => exact va_eqt (z := (-1740746414)) (hs _ (by decide +kernel))
  | 25, _ => exact va_eqt (z := (-1473132947)) (hs _ (by decide +kernel))
  | 26, _ => exact va_eqt (z := (-1341970488)) (hs _ (by decide +kernel))
  | 27, _ => exact va_eqt (z := (-1084653625)) (hs _ (by decide +kernel))
  | 28, _ => exact va_eqt (z := (-958395405)) (hs _ (by decide +kernel))
  | 29, _ => exact va_eqt (z := (-710438585)) (hs _ (by decide +kernel))
  | 30, _ => exact va_eqt (z := 113926993) (hs _ (by decide +kernel))
  | 31, _ => exact va_eqt (z := 338241895) (hs _ (by decide +kernel))
  | 32, _ => exact va_eqt (z := 666307205) (hs _ (by decide +kernel))
  | 33, _ => exact va_eqt (z := 773529912) (hs _ (by decide +kernel))
  | 34, _ => exact va_eqt (z := 1294757372) (hs _ (by decide +kernel))
  | 35, _ => exact va_eqt (z := 1396182291) (hs _ (by decide +kernel))
  | 36, _ => exact va_eqt (z := 1695183700) (hs _ (by decide +kernel))
  | 37, _ => exact va_eqt (z := 1986661051) (hs _ (by decide +kernel))
  | 38, _ => exact va_eqt (z := (-2117940946)) (hs _ (by decide +kernel))
  | 39, _ => exact va_eqt (z := (-1838011259)) (hs _ (by decide +kernel))
  | 40, _ => exact va_eqt (z := (-1564481375)) (hs _ (by decide +kernel))
  | 41, _ => exact va_eqt (z := (-1474664885)) (hs _ (by decide +kernel))
  | 42, _ => exact va_eqt (z := (-1035236496)) (hs _ (by decide +kernel))
  | 43, _ => exact va_eqt (z := (-949202525)) (hs _ (by decide +kernel))
  | 44, _ => exact va_eqt (z := (-778901479)) (hs _ (by decide +kernel))
  | 45, _ => exact va_eqt (z := (-694614492)) (hs _ (by decide +kernel))
  | 46, _ => exact va_eqt (z := (-200395387)) (hs _ (by decide +kernel))
  | 47, _ => exact va_eqt (z := 275423344) (hs _ (by decide +kernel))
  | 48, _ => exact va_eqt (z := 430227734) (hs _ (by decide +kernel))
  | 49, _ => exact va_eqt (z := 506948616) (hs _ (by decide +kernel))
  | 50, _ => exact va_eqt (z := 659060556) (hs _ (by decide +kernel))
  | 51, _ => exact va_eqt (z := 883997877) (hs _ (by decide +kernel))
  | 52, _ => exact va_eqt (z := 958139571) (hs _ (by decide +kernel))
  | 53, _ => exact va_eqt (z := 1322822218) (hs _ (by decide +kernel))
  | 54, _ => exact va_eqt (z := 1537002063) (hs _ (by decide +kernel))
  | 55, _ => exact va_eqt (z := 1747873779) (hs _ (by decide +kernel))
  | 56, _ => exact va_eqt (z := 1955562222) (hs _ (by decide +kernel))
  | 57, _ => exact va_eqt (z := 2024104815) (hs _ (by decide +kernel))
  | 58, _ => exact va_eqt (z := (-2067236844)) (hs _ (by decide +kernel))
  | 59, _ => exact va_eqt (z := (-1933114872)) (hs _ (by decide +kernel))
  | 60, _ => exact va_eqt (z := (-1866530822)) (hs _ (by decide +kernel))
  | 61, _ => exact va_eqt (z := (-1538233109)) (hs _ (by decide +kernel))
  | 62, _ => exact va_eqt (z := (-1090935817)) (hs _ (by decide +kernel))
  | 63, _ => exact va_eqt (z := (-965641998)) (hs _ (by decide +kernel))
  | j + 64, h => exact absurd h (Nat.not_lt.mpr (Nat.le_add_left _ _))
set_option maxRecDepth 100000 in
theorem el_CONSTANTS {args : Array Value} {s : State} (hs : ∀ w ∈ flatC (Jvm.Cond.and given_1 narrow_1), w.before args s = true) : ∀ j : Nat, j < 64 → (Term.elem (Term.static "ResourceLedgerModel$Digester" "CONSTANTS" "[J") (.int (Int32.ofNat j))).eval args s none [] s = some (.long (fs_C j)) := by
  intro j hj
  match j, hj with
  | 0, _ => exact va_eqtl (z := 1116352408) (hs _ (by decide +kernel))
  | 1, _ => exact va_eqtl (z := 1899447441) (hs _ (by decide +kernel))
  | 2, _ => exact va_eqtl (z := 3049323471) (hs _ (by decide +kernel))
  | 3, _ => exact va_eqtl (z := 3921009573) (hs _ (by decide +kernel))
  | 4, _ => exact va_eqtl (z := 961987163) (hs _ (by decide +kernel))
  | 5, _ => exact va_eqtl (z := 1508970993) (hs _ (by decide +kernel))
  | 6, _ => exact va_eqtl (z := 2453635748) (hs _ (by decide +kernel))
  | 7, _ => exact va_eqtl (z := 2870763221) (hs _ (by decide +kernel))
  | 8, _ => exact va_eqtl (z := 3624381080) (hs _ (by decide +kernel))
  | 9, _ => exact va_eqtl (z := 310598401) (hs _ (by decide +kernel))
  | 10, _ => exact va_eqtl (z := 607225278) (hs _ (by decide +kernel))
  | 11, _ => exact va_eqtl (z := 1426881987) (hs _ (by decide +kernel))
  | 12, _ => exact va_eqtl (z := 1925078388) (hs _ (by decide +kernel))
  | 13, _ => exact va_eqtl (z := 2162078206) (hs _ (by decide +kernel))
  | 14, _ => exact va_eqtl (z := 2614888103) (hs _ (by decide +kernel))
  | 15, _ => exact va_eqtl (z := 3248222580) (hs _ (by decide +kernel))
  | 16, _ => exact va_eqtl (z := 3835390401) (hs _ (by decide +kernel))
  | 17, _ => exact va_eqtl (z := 4022224774) (hs _ (by decide +kernel))
  | 18, _ => exact va_eqtl (z := 264347078) (hs _ (by decide +kernel))
  | 19, _ => exact va_eqtl (z := 604807628) (hs _ (by decide +kernel))
  | 20, _ => exact va_eqtl (z := 770255983) (hs _ (by decide +kernel))
  | 21, _ => exact va_eqtl (z := 1249150122) (hs _ (by decide +kernel))
  | 22, _ => exact va_eqtl (z := 1555081692) (hs _ (by decide +kernel))
  | 23, _ => exact va_eqtl (z := 1996064986) (hs _ (by decide +kernel))
  | 24, _ => exact va_eqtl (z := 2554220882) (hs _ (by decide +kernel))
  | 25, _ => exact va_eqtl (z := 2821834349) (hs _ (by decide +kernel))
  | 26, _ => exact va_eqtl (z := 2952996808) (hs _ (by decide +kernel))
  | 27, _ => exact va_eqtl (z := 3210313671) (hs _ (by decide +kernel))
  | 28, _ => exact va_eqtl (z := 3336571891) (hs _ (by decide +kernel))
  | 29, _ => exact va_eqtl (z := 3584528711) (hs _ (by decide +kernel))
  | 30, _ => exact va_eqtl (z := 113926993) (hs _ (by decide +kernel))
  | 31, _ => exact va_eqtl (z := 338241895) (hs _ (by decide +kernel))
  | 32, _ => exact va_eqtl (z := 666307205) (hs _ (by decide +kernel))
  | 33, _ => exact va_eqtl (z := 773529912) (hs _ (by decide +kernel))
  | 34, _ => exact va_eqtl (z := 1294757372) (hs _ (by decide +kernel))
  | 35, _ => exact va_eqtl (z := 1396182291) (hs _ (by decide +kernel))
  | 36, _ => exact va_eqtl (z := 1695183700) (hs _ (by decide +kernel))
  | 37, _ => exact va_eqtl (z := 1986661051) (hs _ (by decide +kernel))
  | 38, _ => exact va_eqtl (z := 2177026350) (hs _ (by decide +kernel))
  | 39, _ => exact va_eqtl (z := 2456956037) (hs _ (by decide +kernel))
  | 40, _ => exact va_eqtl (z := 2730485921) (hs _ (by decide +kernel))
  | 41, _ => exact va_eqtl (z := 2820302411) (hs _ (by decide +kernel))
  | 42, _ => exact va_eqtl (z := 3259730800) (hs _ (by decide +kernel))
  | 43, _ => exact va_eqtl (z := 3345764771) (hs _ (by decide +kernel))
  | 44, _ => exact va_eqtl (z := 3516065817) (hs _ (by decide +kernel))
  | 45, _ => exact va_eqtl (z := 3600352804) (hs _ (by decide +kernel))
  | 46, _ => exact va_eqtl (z := 4094571909) (hs _ (by decide +kernel))
  | 47, _ => exact va_eqtl (z := 275423344) (hs _ (by decide +kernel))
  | 48, _ => exact va_eqtl (z := 430227734) (hs _ (by decide +kernel))
  | 49, _ => exact va_eqtl (z := 506948616) (hs _ (by decide +kernel))
  | 50, _ => exact va_eqtl (z := 659060556) (hs _ (by decide +kernel))
  | 51, _ => exact va_eqtl (z := 883997877) (hs _ (by decide +kernel))
  | 52, _ => exact va_eqtl (z := 958139571) (hs _ (by decide +kernel))
  | 53, _ => exact va_eqtl (z := 1322822218) (hs _ (by decide +kernel))
  | 54, _ => exact va_eqtl (z := 1537002063) (hs _ (by decide +kernel))
  | 55, _ => exact va_eqtl (z := 1747873779) (hs _ (by decide +kernel))
  | 56, _ => exact va_eqtl (z := 1955562222) (hs _ (by decide +kernel))
  | 57, _ => exact va_eqtl (z := 2024104815) (hs _ (by decide +kernel))
  | 58, _ => exact va_eqtl (z := 2227730452) (hs _ (by decide +kernel))
  | 59, _ => exact va_eqtl (z := 2361852424) (hs _ (by decide +kernel))
  | 60, _ => exact va_eqtl (z := 2428436474) (hs _ (by decide +kernel))
  | 61, _ => exact va_eqtl (z := 2756734187) (hs _ (by decide +kernel))
  | 62, _ => exact va_eqtl (z := 3204031479) (hs _ (by decide +kernel))
  | 63, _ => exact va_eqtl (z := 3329325298) (hs _ (by decide +kernel))
  | j + 64, h => exact absurd h (Nat.not_lt.mpr (Nat.le_add_left _ _))
set_option maxRecDepth 100000 in
theorem nestM_in : ∀ q ∈ nestM, Cond.methodLinkNest q.1 q.2.1 q.2.2.1 q.2.2.2 ∈ lw_tbl := fun q hq => in_k (nestM.map (fun q => Cond.methodLinkNest q.1 q.2.1 q.2.2.1 q.2.2.2)) [(1, 42), (1, 185), (1, 220), (2, 56), (2, 62), (2, 129), (2, 162), (2, 185), (3, 46), (7, 237), (8, 28), (8, 103), (8, 127), (8, 188), (11, 78), (11, 101)] rfl _ (List.mem_map_of_mem hq)
set_option maxRecDepth 100000 in
theorem nestF_in : ∀ q ∈ nestF, Cond.fieldLinkNest q.1 q.2.1 q.2.2.1 q.2.2.2.1 q.2.2.2.2.1 q.2.2.2.2.2 ∈ lw_tbl := fun q hq => in_k (nestF.map (fun q => Cond.fieldLinkNest q.1 q.2.1 q.2.2.1 q.2.2.2.1 q.2.2.2.2.1 q.2.2.2.2.2)) [(8, 2), (8, 4), (8, 6), (8, 8), (8, 10), (8, 12), (8, 38), (8, 111), (8, 113), (8, 132), (8, 134), (8, 193), (8, 195), (8, 199), (8, 200), (8, 205)] rfl _ (List.mem_map_of_mem hq)
theorem va_X.keptS {b L : Nat} {xs : Nat → Int32} {U : State} {A : Nat → Prop} {H0 H : Heap} {locs : List Loc} (h : va_X b L xs U H0) (hbl : b < H0.size) (hbA : ¬ A b) (hS : va_S A H0 H locs) : va_X b L xs U H := by
  obtain ⟨scr, h1, h2⟩ := h
  exact ⟨scr, by rw [hS.2.1 b hbl hbA]; exact h1, h2⟩
theorem va_X.warm {b L : Nat} {xs : Nat → Int32} {s U : State} {H : Heap} (h : va_X b L xs s H) (hW : s.WarmedH U.vm) : va_X b L xs U H := by
  obtain ⟨scr, h1, h2, h3⟩ := h
  exact ⟨scr, h1, State.isArrayOf_alike hW.alike h2, h3⟩
theorem va_X.calling {b L : Nat} {xs : Nat → Int32} {U V : State} {H : Heap} (h : va_X b L xs U H) (hv : U.vm.Alike V.vm := by exact Vm.Alike.refl _) : va_X b L xs V H := by
  obtain ⟨scr, h1, h2, h3⟩ := h
  exact ⟨scr, h1, State.isArrayOf_alike hv h2, h3⟩
theorem n_L_law_97 : (.instantiable RX0 4 : Cond) ∈ lw_tbl := lw_ck_at 2 61 rfl
theorem n_L_law_118 : (.instantiable RX1 7 : Cond) ∈ lw_tbl := lw_ck_at 2 128 rfl
theorem n_L_law_137 : (.instantiable RX2 11 : Cond) ∈ lw_tbl := lw_ck_at 2 188 rfl
theorem n_L_law_30 : (.instantiable RX3 22 : Cond) ∈ lw_tbl := lw_ck_at 1 219 rfl
theorem n_L_law_39 : (.instantiable RX4 18 : Cond) ∈ lw_tbl := lw_ck_at 2 122 rfl
theorem n_L_law_64 : (.instantiable RX5 15 : Cond) ∈ lw_tbl := lw_ck_at 1 41 rfl
theorem n_L_law_26 : (.instantiable RX6 9 : Cond) ∈ lw_tbl := lw_ck_at 1 184 rfl
theorem n_L_law_22 : (.instantiable RX7 16 : Cond) ∈ lw_tbl := lw_ck_at 1 34 rfl
theorem n_L_law_42 : (.instantiable RX8 19 : Cond) ∈ lw_tbl := lw_ck_at 3 45 rfl
theorem n_L_law_34 : (.instantiable RX9 13 : Cond) ∈ lw_tbl := lw_ck_at 2 55 rfl
theorem n_L_law_122 : (.instantiable RX10 5 : Cond) ∈ lw_tbl := lw_ck_at 2 161 rfl
theorem n_L_law_1 : (.instantiable RX11 13 : Cond) ∈ lw_tbl := lw_ck_at 1 24 rfl
theorem n_L_law_375 : (.instantiable RX12 4 : Cond) ∈ lw_tbl := lw_ck_at 8 126 rfl
theorem n_L_law_367 : (.instantiable RX13 22 : Cond) ∈ lw_tbl := lw_ck_at 8 27 rfl
theorem n_L_law_379 : (.instantiable RX14 11 : Cond) ∈ lw_tbl := lw_ck_at 8 147 rfl
theorem n_L_law_363 : (.instantiable RX15 6 : Cond) ∈ lw_tbl := lw_ck_at 7 236 rfl
theorem n_L_law_421 : (.instantiable RX16 18 : Cond) ∈ lw_tbl := lw_ck_at 8 187 rfl
theorem n_L_law_371 : (.instantiable RX17 5 : Cond) ∈ lw_tbl := lw_ck_at 8 102 rfl
theorem n_L_law_4 : (.instantiable RX18 78 : Cond) ∈ lw_tbl := lw_ck_at 7 228 rfl
theorem n_L_law_17 : (.arrayClass .byte : Cond) ∈ lw_tbl := lw_ck_at 1 109 rfl
theorem n_L_law_57 : (.arrayClass .int : Cond) ∈ lw_tbl := lw_ck_at 1 111 rfl
theorem n_L_law_50 : (.arrayClass .long : Cond) ∈ lw_tbl := lw_ck_at 1 110 rfl
theorem n_L_law_82 : (.arrayClass .boolean : Cond) ∈ lw_tbl := lw_ck_at 2 53 rfl
theorem n_L_law_6 : (.constantLong RL 21 (4294967295) : Cond) ∈ lw_tbl := lw_ck_at 13 195 rfl
theorem n_L_law_0 : (.classLink RL 7 RX11 : Cond) ∈ lw_tbl := lw_ck_at 1 23 rfl
theorem n_L_law_2 : (.initialized RX11 : Cond) ∈ lw_tbl := lw_ck_at 1 1 rfl
theorem n_L_law_11 : (.methodLink RL 15 yX11_init : Cond) ∈ lw_tbl := lw_ck_at 1 25 rfl
theorem n_L_law_12 : (.instanceMethod yX11_init : Cond) ∈ lw_tbl := lw_ck_at 1 26 rfl
theorem n_L_law_3 : (.classLink RL 18 RX18 : Cond) ∈ lw_tbl := lw_ck_at 7 227 rfl
theorem n_L_law_5 : (.initialized RX18 : Cond) ∈ lw_tbl := lw_ck_at 1 14 rfl
theorem n_L_law_346 : (.methodLink RL 20 yX18_init : Cond) ∈ lw_tbl := lw_ck_at 7 229 rfl
theorem n_L_law_347 : (.instanceMethod yX18_init : Cond) ∈ lw_tbl := lw_ck_at 7 230 rfl
set_option maxRecDepth 100000 in
theorem law_world2 {p : Program} {s : State} {m : MethodId} {meth : Method} {c : Code} {b L : Nat} {xs : Nat → Int32} (C0 : lw_At p s m meth c b L xs) : ∃ (dC : Nat → ClassId) (dI : Nat → Nat → Nat) (cy : Nat → ClassId) (sk : Nat → Nat) (cb : Nat), va_K (dC, dI) vwCl (TYS cy) s ∧ NK s ∧ va_Nw (.castable "[B" "java/lang/Cloneable") s ∧ SKs sk cb (fun q : Nat => s.heap.size ≤ q) s s.heap := by
  obtain ⟨hx, hb, hr, hml, hown, hts, hX, hbl, hlocks, hgv⟩ := C0
  obtain ⟨c0, i0, k0⟩ := u_known (C := RX0) (T := TX0) (N := 4) (n := 4) hts itX0 (hts (.instantiable RX0 4) n_L_law_97)
  obtain ⟨c1, i1, k1⟩ := u_known (C := RX1) (T := TX1) (N := 7) (n := 7) hts itX1 (hts (.instantiable RX1 7) n_L_law_118)
  obtain ⟨c2, i2, k2⟩ := u_known (C := RX2) (T := TX2) (N := 11) (n := 11) hts itX2 (hts (.instantiable RX2 11) n_L_law_137)
  obtain ⟨c3, i3, k3⟩ := u_known (C := RX3) (T := TX3) (N := 22) (n := 22) hts itX3 (hts (.instantiable RX3 22) n_L_law_30)
  obtain ⟨c4, i4, k4⟩ := u_known (C := RX4) (T := TX4) (N := 18) (n := 18) hts itX4 (hts (.instantiable RX4 18) n_L_law_39)
  obtain ⟨c5, i5, k5⟩ := u_known (C := RX5) (T := TX5) (N := 15) (n := 15) hts itX5 (hts (.instantiable RX5 15) n_L_law_64)
  obtain ⟨c6, i6, k6⟩ := u_known (C := RX6) (T := TX6) (N := 9) (n := 9) hts itX6 (hts (.instantiable RX6 9) n_L_law_26)
  obtain ⟨c7, i7, k7⟩ := u_known (C := RX7) (T := TX7) (N := 16) (n := 16) hts itX7 (hts (.instantiable RX7 16) n_L_law_22)
  obtain ⟨c8, i8, k8⟩ := u_known (C := RX8) (T := TX8) (N := 19) (n := 19) hts itX8 (hts (.instantiable RX8 19) n_L_law_42)
  obtain ⟨c9, i9, k9⟩ := u_known (C := RX9) (T := TX9) (N := 13) (n := 13) hts itX9 (hts (.instantiable RX9 13) n_L_law_34)
  obtain ⟨c10, i10, k10⟩ := u_known (C := RX10) (T := TX10) (N := 5) (n := 5) hts itX10 (hts (.instantiable RX10 5) n_L_law_122)
  obtain ⟨c11, i11, k11⟩ := u_known (C := RX11) (T := TX11) (N := 13) (n := 13) hts itX11 (hts (.instantiable RX11 13) n_L_law_1)
  obtain ⟨c12, i12, k12⟩ := u_known (C := RX12) (T := TX12) (N := 4) (n := 4) hts itX12 (hts (.instantiable RX12 4) n_L_law_375)
  obtain ⟨c13, i13, k13⟩ := u_known (C := RX13) (T := TX13) (N := 22) (n := 22) hts itX13 (hts (.instantiable RX13 22) n_L_law_367)
  obtain ⟨c14, i14, k14⟩ := u_known (C := RX14) (T := TX14) (N := 11) (n := 11) hts itX14 (hts (.instantiable RX14 11) n_L_law_379)
  obtain ⟨c15, i15, k15⟩ := u_known (C := RX15) (T := TX15) (N := 6) (n := 6) hts itX15 (hts (.instantiable RX15 6) n_L_law_363)
  obtain ⟨c16, i16, k16⟩ := u_known (C := RX16) (T := TX16) (N := 18) (n := 18) hts itX16 (hts (.instantiable RX16 18) n_L_law_421)
  obtain ⟨c17, i17, k17⟩ := u_known (C := RX17) (T := TX17) (N := 5) (n := 5) hts itX17 (hts (.instantiable RX17 5) n_L_law_371)
  obtain ⟨c18, i18, k18⟩ := u_known (C := RX18) (T := TX18) (N := 78) (n := 78) hts itX18 (hts (.instantiable RX18 78) n_L_law_4)
  obtain ⟨a0, kA0, cm0, fa0, ga0, ha0⟩ := Cond.arrayClass_spec (hts (.arrayClass .byte) n_L_law_17)
  obtain ⟨a1, kA1, cm1, fa1, ga1, ha1⟩ := Cond.arrayClass_spec (hts (.arrayClass .int) n_L_law_57)
  obtain ⟨a2, kA2, cm2, fa2, ga2, ha2⟩ := Cond.arrayClass_spec (hts (.arrayClass .long) n_L_law_50)
  obtain ⟨a3, kA3, cm3, fa3, ga3, ha3⟩ := Cond.arrayClass_spec (hts (.arrayClass .boolean) n_L_law_82)
  have o4 : (Cond.arrayOver (.object "ResourceLedger$Program")).before #[Value.ref b] s = true := hts _ (lw_ck_at 1 40 rfl)
  obtain ⟨cm4, a4, kA4, fc4, -, ga4, ha4, fa4⟩ := Cond.arrayOver_spec o4
  have o5 : (Cond.arrayOver (.object "ResourceLedger$Transaction")).before #[Value.ref b] s = true := hts _ (lw_ck_at 1 32 rfl)
  obtain ⟨cm5, a5, kA5, fc5, -, ga5, ha5, fa5⟩ := Cond.arrayOver_spec o5
  have o6 : (Cond.arrayOver (.object "ResourceLedgerModel$Unit")).before #[Value.ref b] s = true := hts _ (lw_ck_at 7 234 rfl)
  obtain ⟨cm6, a6, kA6, fc6, -, ga6, ha6, fa6⟩ := Cond.arrayOver_spec o6
  have hs := flat_of_before _ hgv
  have harr_COIN_BYTES : (Cond.arrayOf (Term.static "ResourceLedger$Program" "COIN_BYTES" "[B") .byte).before #[Value.ref b] s = true := hs _ (by decide +kernel)
  have hlen_COIN_BYTES : (Cond.eq (Term.length (Term.static "ResourceLedger$Program" "COIN_BYTES" "[B")) (.int 81)).before #[Value.ref b] s = true := hs _ (by decide +kernel)
  obtain ⟨cb, hev_COIN_BYTES, hT_COIN_BYTES⟩ := va_Tof (A := (fun q : Nat => s.heap.size ≤ q)) (N := 81) (by decide) harr_COIN_BYTES (va_eqt hlen_COIN_BYTES) (el_COIN_BYTES hs) (fun a h => Nat.not_le.mpr h)
  have hZ_COIN_BYTES : va_Z "ResourceLedger$Program" "COIN_BYTES" "[B" (.ref cb) (fun q : Nat => s.heap.size ≤ q) s s.heap := va_Zof (hts (.laysStatic "ResourceLedger$Program" "COIN_BYTES" "[B") (lw_ck_at 3 136 rfl)) (hts (.initialized "ResourceLedger$Program") (lw_ck_at 1 3 rfl)) hev_COIN_BYTES (fun a h => Nat.not_le.mpr h)
  have harr_FIRST : (Cond.arrayOf (Term.static "ResourceLedger$Digest" "FIRST" "[I") .int).before #[Value.ref b] s = true := hs _ (by decide +kernel)
  have hlen_FIRST : (Cond.eq (Term.length (Term.static "ResourceLedger$Digest" "FIRST" "[I")) (.int 8)).before #[Value.ref b] s = true := hs _ (by decide +kernel)
  obtain ⟨s0, hev_FIRST, hT_FIRST⟩ := va_Tof (A := (fun q : Nat => s.heap.size ≤ q)) (N := 8) (by decide) harr_FIRST (va_eqt hlen_FIRST) (el_FIRST hs) (fun a h => Nat.not_le.mpr h)
  have hZ_FIRST : va_Z "ResourceLedger$Digest" "FIRST" "[I" (.ref s0) (fun q : Nat => s.heap.size ≤ q) s s.heap := va_Zof (hts (.laysStatic "ResourceLedger$Digest" "FIRST" "[I") (lw_ck_at 6 27 rfl)) (hts (.initialized "ResourceLedger$Digest") (lw_ck_at 1 7 rfl)) hev_FIRST (fun a h => Nat.not_le.mpr h)
  have harr_K : (Cond.arrayOf (Term.static "ResourceLedger$Digest" "K" "[I") .int).before #[Value.ref b] s = true := hs _ (by decide +kernel)
  have hlen_K : (Cond.eq (Term.length (Term.static "ResourceLedger$Digest" "K" "[I")) (.int 64)).before #[Value.ref b] s = true := hs _ (by decide +kernel)
  obtain ⟨s1, hev_K, hT_K⟩ := va_Tof (A := (fun q : Nat => s.heap.size ≤ q)) (N := 64) (by decide) harr_K (va_eqt hlen_K) (el_K hs) (fun a h => Nat.not_le.mpr h)
  have hZ_K : va_Z "ResourceLedger$Digest" "K" "[I" (.ref s1) (fun q : Nat => s.heap.size ≤ q) s s.heap := va_Zof (hts (.laysStatic "ResourceLedger$Digest" "K" "[I") (lw_ck_at 6 38 rfl)) (hts (.initialized "ResourceLedger$Digest") (lw_ck_at 1 7 rfl)) hev_K (fun a h => Nat.not_le.mpr h)
  have harr_CONSTANTS : (Cond.arrayOf (Term.static "ResourceLedgerModel$Digester" "CONSTANTS" "[J") .long).before #[Value.ref b] s = true := hs _ (by decide +kernel)
  have hlen_CONSTANTS : (Cond.eq (Term.length (Term.static "ResourceLedgerModel$Digester" "CONSTANTS" "[J")) (.int 64)).before #[Value.ref b] s = true := hs _ (by decide +kernel)
  obtain ⟨s2, hev_CONSTANTS, hT_CONSTANTS⟩ := va_Tof (A := (fun q : Nat => s.heap.size ≤ q)) (N := 64) (by decide) harr_CONSTANTS (va_eqt hlen_CONSTANTS) (el_CONSTANTS hs) (fun a h => Nat.not_le.mpr h)
  have hZ_CONSTANTS : va_Z "ResourceLedgerModel$Digester" "CONSTANTS" "[J" (.ref s2) (fun q : Nat => s.heap.size ≤ q) s s.heap := va_Zof (hts (.laysStatic "ResourceLedgerModel$Digester" "CONSTANTS" "[J") (lw_ck_at 13 33 rfl)) (hts (.initialized "ResourceLedgerModel$Digester") (lw_ck_at 1 18 rfl)) hev_CONSTANTS (fun a h => Nat.not_le.mpr h)
  have hcast : va_Nw (.castable "[B" "java/lang/Cloneable") s := va_Nw.of rfl (hts _ (lw_ck_at 4 124 rfl))
  refine ⟨fun k => if k = 0 then c0 else if k = 1 then c1 else if k = 2 then c2 else if k = 3 then c3 else if k = 4 then c4 else if k = 5 then c5 else if k = 6 then c6 else if k = 7 then c7 else if k = 8 then c8 else if k = 9 then c9 else if k = 10 then c10 else if k = 11 then c11 else if k = 12 then c12 else if k = 13 then c13 else if k = 14 then c14 else if k = 15 then c15 else if k = 16 then c16 else if k = 17 then c17 else c18, fun k => if k = 0 then i0 else if k = 1 then i1 else if k = 2 then i2 else if k = 3 then i3 else if k = 4 then i4 else if k = 5 then i5 else if k = 6 then i6 else if k = 7 then i7 else if k = 8 then i8 else if k = 9 then i9 else if k = 10 then i10 else if k = 11 then i11 else if k = 12 then i12 else if k = 13 then i13 else if k = 14 then i14 else if k = 15 then i15 else if k = 16 then i16 else if k = 17 then i17 else i18, fun k => if k = 0 then a0 else if k = 1 then a1 else if k = 2 then a2 else if k = 3 then a3 else if k = 4 then a4 else if k = 5 then a5 else a6, fun k => if k = 0 then s0 else if k = 1 then s1 else s2, cb, ⟨?_, ?_⟩, ⟨?_, ?_, va_AO.of o4, va_AO.of o5, va_AO.of o6⟩, hcast, ⟨hZ_COIN_BYTES, hT_COIN_BYTES⟩, ⟨hZ_FIRST, hT_FIRST⟩, ⟨hZ_K, hT_K⟩, ⟨hZ_CONSTANTS, hT_CONSTANTS⟩⟩
  · intro k q hq
    match k, hq with
    | 0, hq => cases hq; exact k0
    | 1, hq => cases hq; exact k1
    | 2, hq => cases hq; exact k2
    | 3, hq => cases hq; exact k3
    | 4, hq => cases hq; exact k4
    | 5, hq => cases hq; exact k5
    | 6, hq => cases hq; exact k6
    | 7, hq => cases hq; exact k7
    | 8, hq => cases hq; exact k8
    | 9, hq => cases hq; exact k9
    | 10, hq => cases hq; exact k10
    | 11, hq => cases hq; exact k11
    | 12, hq => cases hq; exact k12
    | 13, hq => cases hq; exact k13
    | 14, hq => cases hq; exact k14
    | 15, hq => cases hq; exact k15
    | 16, hq => cases hq; exact k16
    | 17, hq => cases hq; exact k17
    | 18, hq => cases hq; exact k18
    | k + 19, hq => simp [vwCl] at hq
  · intro k q hq
    match k, hq with
    | 0, hq => cases hq; exact ⟨fun n z => ⟨fun k h => (by cases h), kA0, ga0, cm0, ha0⟩, fa0⟩
    | 1, hq => cases hq; exact ⟨fun n z => ⟨fun k h => (by cases h), kA1, ga1, cm1, ha1⟩, fa1⟩
    | 2, hq => cases hq; exact ⟨fun n z => ⟨fun k h => (by cases h), kA2, ga2, cm2, ha2⟩, fa2⟩
    | 3, hq => cases hq; exact ⟨fun n z => ⟨fun k h => (by cases h), kA3, ga3, cm3, ha3⟩, fa3⟩
    | 4, hq => cases hq; exact ⟨fun n z => ⟨fun k h => (by cases h), kA4, ga4, cm4, ha4⟩, kA4, cm4, ga4, ha4, fc4, fa4⟩
    | 5, hq => cases hq; exact ⟨fun n z => ⟨fun k h => (by cases h), kA5, ga5, cm5, ha5⟩, kA5, cm5, ga5, ha5, fc5, fa5⟩
    | 6, hq => cases hq; exact ⟨fun n z => ⟨fun k h => (by cases h), kA6, ga6, cm6, ha6⟩, kA6, cm6, ga6, ha6, fc6, fa6⟩
    | k + 7, hq => simp at hq
  · exact fun q hq => va_Nw.of rfl (hts _ (nestM_in q hq))
  · exact fun q hq => va_Nw.of rfl (hts _ (nestF_in q hq))
def cellv (L : Nat) (xs : Nat → Int32) : Int32 := if L = 0 then 0 else xs 0
theorem c_L_cell2 (l : Launch) (b L sz : Nat) (xs : Nat → Int32) : Met l yL_cell wsL_cell ({ frames := 0, cells := 0, slots := 0, locals := 0 }) (va_Pc [.ref b, .int 0] (fun U => U.heap.size = sz ∧ va_X b L xs U U.heap ∧ b < U.heap.size ∧ L < 2 ^ 31)) (va_Qi (fun (r : Int32) (u : Unit) => r = cellv L xs) (fun u t => True) (va_A [] sz)) 0 0 (va_A [] sz) := by
  refine Met.ofW (cc := cL_cell) (maxL := 2) (ret := (some .int)) (by decide) rfl ?_
  intro p e s m args below meth c s₁ B hml hv
  obtain ⟨rfl, hsz, hX, hbl, hL⟩ := hv
  have hx := B.exec
  have hb := B.bytes
  have hr := B.returns
  have hlocks := B.notSynchronized
  subst hsz
  have hbA : ¬ va_A [] s.heap.size b := fun h => by rcases h with ⟨k, e, h⟩ | h; · simp at h
                                                    · omega
  have hS : va_S (va_A [] s.heap.size) s.heap s.heap [] := va_S.rf
  have hl := lv_entry ([.ref b, .int 0]) (n := 2) (Nat.le_of_ble_eq_true rfl)
  rw [lg_entry_eq]
  generalize (lg_sl ([.ref b, .int 0]) ++ List.replicate (2 - (lg_sl ([.ref b, .int 0])).length) Slot.unset).toArray = ls at hl ⊢
  have hl : lv_has ls 2 [(0, .ref b), (1, .int 0)] := hl
  refine lv_iload_n hx hb dL_cell_0 rfl (lv_at hl 1 rfl) ?_
  refine lv_aload_n hx hb dL_cell_1 rfl (lv_at hl 0 rfl) ?_
  refine va_slen hx hb hX hbl hbA hS dL_cell_2 ?_
  have h0 : L = 0 ∨ 0 < L := Nat.eq_zero_or_pos L
  refine lv_icmp_ge (tgt := 12) hx hb dL_cell_3 (by decide) (fun c_1 => ?_) (fun c_1 => ?_)
  · have hz : L = 0 := by
      rcases h0 with h | h
      · exact h
      · exact absurd c_1 (nI_ge (a := 0) h hL)
    refine lv_iconst (v := 0) hx hb dL_cell_12 (by decide) ?_
    exact W.iret (v := 0) hx hb hr (fun t ht hW => ⟨⟨0, (), rfl, by unfold cellv; rw [if_pos hz], trivial⟩, hS.F ht⟩) hS.2.2 dL_cell_13
  · have hz : 0 < L := by
      rcases h0 with h | h
      · subst h; exact absurd (by decide) c_1
      · exact h
    refine lv_aload_n hx hb dL_cell_6 rfl (lv_at hl 0 rfl) ?_
    refine lv_iload_n hx hb dL_cell_7 rfl (lv_at hl 1 rfl) ?_
    refine va_sld hx hb hX hbl hbA hS (vp_in_nI hz hL) dL_cell_8 ?_
    refine lv_goto (tgt := 13) hx hb dL_cell_9 (by decide) ?_
    exact W.iret (v := xs 0) hx hb hr (fun t ht hW => ⟨⟨xs 0, (), rfl, by unfold cellv; rw [if_neg (Nat.ne_of_gt hz)], trivial⟩, hS.F ht⟩) hS.2.2 dL_cell_13
