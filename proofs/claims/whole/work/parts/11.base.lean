/-! PURE FUNCTIONS OF METHODS: none where a link is null, a place is not in its row, a cell is of another shape, or the turns of a loop are spent -/
def grd {β : Type} (b : Bool) (x : Option β) : Option β := match b with
  | true => x
  | false => none
theorem grd_some {β : Type} {b : Bool} {x : Option β} {y : β} (h : grd b x = some y) : b = true ∧ x = some y := by
  cases b with
  | true => exact ⟨rfl, h⟩
  | false => exact absurd h (by simp [grd])
def lt_ {α β : Type} (v : α) (f : α → Option β) : Option β := f v
theorem lt_at {α β : Type} {v w : α} {f : α → Option β} {y : β} (e : w = v) (h : lt_ v f = some y) : f w = some y := by subst e; exact h
def lnk {β : Type} (q : Option Nat) (f : Nat → Option β) : Option β := match q with
  | some k => f k
  | none => none
theorem lnk_some {β : Type} {q : Option Nat} {f : Nat → Option β} {y : β} (h : lnk q f = some y) : ∃ k, q = some k ∧ f k = some y := by
  cases q with
  | some k => exact ⟨k, rfl, h⟩
  | none => exact absurd h (by simp [lnk])
def cal {α β : Type} (o : Option (St × α)) (f : St → α → Option β) : Option β := match o with
  | some (z, r) => f z r
  | none => none
theorem cal_some {α β : Type} {o : Option (St × α)} {f : St → α → Option β} {y : β} (h : cal o f = some y) : ∃ z r, o = some (z, r) ∧ f z r = some y := by
  cases o with
  | some q => exact ⟨q.1, q.2, rfl, h⟩
  | none => exact absurd h (by simp [cal])
theorem de_start {p : Program} {l : Launch} {e : Env} {R : Room} {s : State} {m : MethodId} {args : Array Value} {below : List Frame} {meth : Method} {c : Code} {A : Nat → Prop} {D : va_G} {cl : List vw_C} {ws : va_W} {cells slots : Nat} {Q : State → Prop} {g : JFrame} (hS : va_S A s.heap s.heap []) (hP : va_P D cl ws s.heap) (k : ∀ (H : Heap) (locs : List Loc), va_S A s.heap H locs → va_P D cl ws H → W p l e R s m args below meth c H locs cells slots Q g) : W p l e R s m args below meth c s.heap [] cells slots Q g := k _ _ hS hP
theorem de_loop {p : Program} {l : Launch} {e : Env} {R : Room} {s : State} {m : MethodId} {args : Array Value} {below : List Frame} {meth : Method} {c : Code} {cells slots : Nat} {Q : State → Prop} {h : Nat} {α β : Type} (I : α → Array Slot → Heap → List Loc → Prop) (fn : Nat → α → Option β) (y : β)
    (step : ∀ (f : Nat) (x : α) (ls : Array Slot) (H : Heap) (locs : List Loc), (∀ (x' : α) (ls' : Array Slot) (H' : Heap) (locs' : List Loc), I x' ls' H' locs' → fn f x' = some y → W p l e R s m args below meth c H' locs' cells slots Q (F0 m h ls' [])) → I x ls H locs → fn (f + 1) x = some y → W p l e R s m args below meth c H locs cells slots Q (F0 m h ls []))
    (zero : ∀ x, fn 0 x = none) : ∀ (f : Nat) (x : α) (ls : Array Slot) (H : Heap) (locs : List Loc), I x ls H locs → fn f x = some y → W p l e R s m args below meth c H locs cells slots Q (F0 m h ls []) := by
  intro f
  induction f with
  | zero => intro x ls H locs _ hf; rw [zero] at hf; exact absurd hf (by simp)
  | succ f ih => exact fun x ls H locs hI hf => step f x ls H locs ih hI hf
theorem tbd_ne {x k : Int32} (h : ¬ x = k) : x.toInt ≠ k.toInt := fun e => h (Int32.toInt_inj.mp e)
def okZ (x : Int32) : Bool := x == 0 || x == 1
theorem nar_z {x : Int32} (h : okZ x = true) : narrow .boolean (.int x) = .int x := by
  simp only [okZ, Bool.or_eq_true, beq_iff_eq] at h
  rcases h with h | h
  · rw [h]; rfl
  · rw [h]; rfl
theorem fit_z {x : Int32} (h : okZ x = true) : fits .boolean (.int x) = true := by
  simp only [okZ, Bool.or_eq_true, beq_iff_eq] at h
  rcases h with h | h
  · rw [h]; rfl
  · rw [h]; rfl
theorem Wd_sq1 {cy : Nat → ClassId} {a : Nat → Nat} {sh : Nat → Nat × Nat} {n : Nat} {z : St} {k ci w j k1 : Nat} (hs : sh k = (ci, w)) (hc : ci < 100) (h : (tgs.getD ci [])[j]? = some 2) : (Wd cy a sh n z).set k (a k, .inr (ci, (fl a z ci k).set j (.ref (a k1)))) = Wd cy a sh n (sq z k j (some k1)) := Wd_sq (v := some k1) hs hc h
theorem Wd_sq0 {cy : Nat → ClassId} {a : Nat → Nat} {sh : Nat → Nat × Nat} {n : Nat} {z : St} {k ci w j : Nat} (hs : sh k = (ci, w)) (hc : ci < 100) (h : (tgs.getD ci [])[j]? = some 2) : (Wd cy a sh n z).set k (a k, .inr (ci, (fl a z ci k).set j .null)) = Wd cy a sh n (sq z k j none) := Wd_sq (v := none) hs hc h
theorem de_cut {p : Program} {l : Launch} {e : Env} {R : Room} {s : State} {m : MethodId} {args : Array Value} {below : List Frame} {meth : Method} {c : Code} {cells slots : Nat} {Q : State → Prop} {h : Nat} {α β : Type} {H0 : Heap} {locs0 : List Loc} {g0 : JFrame} (stk : α → List Value) (I : α → Array Slot → Heap → List Loc → Prop) (fn : α → Option β) (y : β)
    (blk : ∀ (x : α) (ls : Array Slot) (H : Heap) (locs : List Loc), I x ls H locs → fn x = some y → W p l e R s m args below meth c H locs cells slots Q (F0 m h ls (stk x)))
    (main : (∀ (x : α) (ls : Array Slot) (H : Heap) (locs : List Loc), I x ls H locs → fn x = some y → W p l e R s m args below meth c H locs cells slots Q (F0 m h ls (stk x))) → W p l e R s m args below meth c H0 locs0 cells slots Q g0) : W p l e R s m args below meth c H0 locs0 cells slots Q g0 := main blk
def nul {β : Type} (q : Option Nat) (x : Option β) (f : Nat → Option β) : Option β := match q with
  | none => x
  | some k => f k
theorem nul_none {β : Type} {x : Option β} {f : Nat → Option β} {y : β} (h : nul none x f = some y) : x = some y := h
theorem nul_some {β : Type} {x : Option β} {f : Nat → Option β} {y : β} {k : Nat} (h : nul (some k) x f = some y) : f k = some y := h
def okI (i : Int32) (N : Nat) : Bool := decide (0 ≤ i.toInt) && decide (i.toInt < N)
theorem okI_at {i : Int32} {N : Nat} (h : okI i N = true) : vp_in i N := by
  simp only [okI, Bool.and_eq_true, decide_eq_true_eq] at h
  exact vp_in_iff.mpr h
def CBK : Nat := 1000000000
def bnd {α β : Type} (o : Option α) (f : α → Option β) : Option β := match o with
  | some v => f v
  | none => none
theorem bnd_some {α β : Type} {o : Option α} {f : α → Option β} {y : β} (h : bnd o f = some y) : ∃ v, o = some v ∧ f v = some y := by
  cases o with
  | some q => exact ⟨q, rfl, h⟩
  | none => exact absurd h (by simp [bnd])
def okO (sh : Nat → Nat × Nat) (n k c : Nat) : Bool := decide (k < n) && (sh k).1 == c
theorem okO_at {sh : Nat → Nat × Nat} {n k c : Nat} (h : okO sh n k c = true) : k < n ∧ sh k = (c, (sh k).2) := by
  simp only [okO, Bool.and_eq_true, decide_eq_true_eq, beq_iff_eq] at h
  exact ⟨h.1, by rw [← h.2]⟩
def okA (sh : Nat → Nat × Nat) (n k c : Nat) (i : Int32) : Bool := okO sh n k c && (decide (0 ≤ i.toInt) && decide (i.toInt < (sh k).2))
theorem okA_at {sh : Nat → Nat × Nat} {n k c : Nat} {i : Int32} (h : okA sh n k c i = true) : k < n ∧ sh k = (c, (sh k).2) ∧ vp_in i (sh k).2 := by
  simp only [okA, Bool.and_eq_true, decide_eq_true_eq] at h
  exact ⟨(okO_at h.1).1, (okO_at h.1).2, vp_in_iff.mpr h.2⟩
theorem fl_q {a : Nat → Nat} {z : St} {ci k j k1 : Nat} (h : (tgs.getD ci [])[j]? = some 2) (e : z.2.2 k j = some k1) : (fl a z ci k)[j]? = some (.ref (a k1)) := by
  rw [fl_at h]
  unfold fv
  rw [e]
  rfl
theorem fl_len {a : Nat → Nat} {z : St} {ci k : Nat} : (fl a z ci k).length = (tgs.getD ci []).length := List.length_mapIdx
theorem Wd_tq {cy : Nat → ClassId} {a : Nat → Nat} {sh : Nat → Nat × Nat} {n : Nat} {z : St} {k w t j v : Nat} (hs : sh k = (100 + t, w)) (ht : 4 ≤ t) : (Wd cy a sh n z).set k (a k, .inl (cy t, w, .inr (.inr (.inr (.inr (va_up (fun j => (z.2.2 k j).map a) j (some (a v)))))))) = Wd cy a sh n (sq z k j (some v)) := by
  apply Wd_set
  · have e : (fun i => ((sq z k j (some v)).2.2 k i).map a) = va_up (fun j => (z.2.2 k j).map a) j (some (a v)) := by
      funext i
      by_cases hi : i = j
      · simp [sq, va_up, hi]
      · simp [sq, va_up, hi]
    unfold cE
    rw [hs, if_neg (by omega), if_neg (by omega), if_neg (by omega), Nat.add_sub_cancel_left, e]
  · intro i hi
    have e3 : (sq z k j (some v)).2.2 i = z.2.2 i := by funext x; simp [sq, hi]
    unfold cE fl fv
    rw [e3]
    rfl
def sc (z : St) (k : Nat) (f : Nat → Int32) (sp dp m : Nat) : St := (fun k' j' => if k' = k then va_cpy f (z.1 k) sp dp m j' else z.1 k' j', z.2.1, z.2.2)
theorem Wd_sc {cy : Nat → ClassId} {a : Nat → Nat} {sh : Nat → Nat × Nat} {n : Nat} {z : St} {k w sp dp m : Nat} {f : Nat → Int32} (hs : sh k = (101, w)) : (Wd cy a sh n z).set k (a k, .inl (cy 1, w, .inl (va_cpy f (z.1 k) sp dp m))) = Wd cy a sh n (sc z k f sp dp m) := by
  apply Wd_set
  · have e : (sc z k f sp dp m).1 k = va_cpy f (z.1 k) sp dp m := by funext i; simp [sc]
    unfold cE
    rw [hs, e]
    rfl
  · intro i hi
    have e1 : (sc z k f sp dp m).1 i = z.1 i := by funext x; simp [sc, hi]
    unfold cE fl fv
    rw [e1]
    rfl
def scl (z : St) (k : Nat) (f : Nat → Int64) (sp dp m : Nat) : St := (z.1, fun k' j' => if k' = k then va_cpy f (z.2.1 k) sp dp m j' else z.2.1 k' j', z.2.2)
theorem Wd_scl {cy : Nat → ClassId} {a : Nat → Nat} {sh : Nat → Nat × Nat} {n : Nat} {z : St} {k w sp dp m : Nat} {f : Nat → Int64} (hs : sh k = (102, w)) : (Wd cy a sh n z).set k (a k, .inl (cy 2, w, .inr (.inl (va_cpy f (z.2.1 k) sp dp m)))) = Wd cy a sh n (scl z k f sp dp m) := by
  apply Wd_set
  · have e : (scl z k f sp dp m).2.1 k = va_cpy f (z.2.1 k) sp dp m := by funext i; simp [scl]
    unfold cE
    rw [hs, e]
    rfl
  · intro i hi
    have e1 : (scl z k f sp dp m).2.1 i = z.2.1 i := by funext x; simp [scl, hi]
    unfold cE fl fv
    rw [e1]
    rfl
def okC (n0 n1 : Nat) (sp dp m : Int32) : Bool := (decide (0 ≤ sp.toInt) && (decide (0 ≤ dp.toInt) && decide (0 ≤ m.toInt))) && (decide (sp.toNatClampNeg + m.toNatClampNeg ≤ n0) && decide (dp.toNatClampNeg + m.toNatClampNeg ≤ n1))
theorem nneg {x : Int32} (h : 0 ≤ x.toInt) : ¬ x < 0 := fun q => by
  have := Int32.lt_iff_toInt_lt.mp q
  simp at this
  omega
theorem okC_at {n0 n1 : Nat} {sp dp m : Int32} (h : okC n0 n1 sp dp m = true) : ¬ sp < 0 ∧ ¬ dp < 0 ∧ ¬ m < 0 ∧ sp.toNatClampNeg + m.toNatClampNeg ≤ n0 ∧ dp.toNatClampNeg + m.toNatClampNeg ≤ n1 := by
  simp only [okC, Bool.and_eq_true, decide_eq_true_eq] at h
  exact ⟨nneg h.1.1, nneg h.1.2.1, nneg h.1.2.2, h.2.1, h.2.2⟩
theorem ret_some {α : Type} {z z8 : St} {x r8 : α} (h : some (z, x) = some (z8, r8)) : z8 = z ∧ r8 = x := by
  cases h
  exact ⟨rfl, rfl⟩
theorem de_free {A : Nat → Prop} {ws : va_W} {H0 H : Heap} {locs : List Loc} (hD : va_D A ws) (hS : va_S A H0 H locs) (hA : ∀ q : Nat, H0.size ≤ q → A q) : ∀ q, va_A ws H.size q → A q := fun q h => Or.elim h (fun ⟨k, e, h⟩ => hD.2 k _ h) (fun h => hA q (Nat.le_trans hS.1 h))
def fs_FIRST (k : Nat) : Int32 := match k with
  | 0 => 1779033703
  | 1 => (-1150833019)
  | 2 => 1013904242
  | 3 => (-1521486534)
  | 4 => 1359893119
  | 5 => (-1694144372)
  | 6 => 528734635
  | 7 => 1541459225
  | _ => 0
def fs_K (k : Nat) : Int32 := match k with
  | 0 => 1116352408
  | 1 => 1899447441
  | 2 => (-1245643825)
  | 3 => (-373957723)
  | 4 => 961987163
  | 5 => 1508970993
  | 6 => (-1841331548)
  | 7 => (-1424204075)
  | 8 => (-670586216)
  | 9 => 310598401
  | 10 => 607225278
  | 11 => 1426881987
  | 12 => 1925078388
  | 13 => (-2132889090)
  | 14 => (-1680079193)
  | 15 => (-1046744716)
  | 16 => (-459576895)
  | 17 => (-272742522)
  | 18 => 264347078
  | 19 => 604807628
  | 20 => 770255983
  | 21 => 1249150122
  | 22 => 1555081692
  | 23 => 1996064986
  | 24 => (-1740746414)
  | 25 => (-1473132947)
  | 26 => (-1341970488)
  | 27 => (-1084653625)
  | 28 => (-958395405)
  | 29 => (-710438585)
  | 30 => 113926993
  | 31 => 338241895
  | 32 => 666307205
  | 33 => 773529912
  | 34 => 1294757372
  | 35 => 1396182291
  | 36 => 1695183700
  | 37 => 1986661051
  | 38 => (-2117940946)
  | 39 => (-1838011259)
  | 40 => (-1564481375)
  | 41 => (-1474664885)
  | 42 => (-1035236496)
  | 43 => (-949202525)
  | 44 => (-778901479)
  | 45 => (-694614492)
  | 46 => (-200395387)
  | 47 => 275423344
  | 48 => 430227734
  | 49 => 506948616
  | 50 => 659060556
  | 51 => 883997877
  | 52 => 958139571
  | 53 => 1322822218
  | 54 => 1537002063
  | 55 => 1747873779
  | 56 => 1955562222
  | 57 => 2024104815
  | 58 => (-2067236844)
  | 59 => (-1933114872)
  | 60 => (-1866530822)
  | 61 => (-1538233109)
  | 62 => (-1090935817)
  | 63 => (-965641998)
  | _ => 0
def fs_C (k : Nat) : Int64 := match k with
  | 0 => 1116352408
  | 1 => 1899447441
  | 2 => 3049323471
  | 3 => 3921009573
  | 4 => 961987163
  | 5 => 1508970993
  | 6 => 2453635748
  | 7 => 2870763221
  | 8 => 3624381080
  | 9 => 310598401
  | 10 => 607225278
  | 11 => 1426881987
  | 12 => 1925078388
  | 13 => 2162078206
  | 14 => 2614888103
  | 15 => 3248222580
  | 16 => 3835390401
  | 17 => 4022224774
  | 18 => 264347078
  | 19 => 604807628
  | 20 => 770255983
  | 21 => 1249150122
  | 22 => 1555081692
  | 23 => 1996064986
  | 24 => 2554220882
  | 25 => 2821834349
  | 26 => 2952996808
  | 27 => 3210313671
  | 28 => 3336571891
  | 29 => 3584528711
  | 30 => 113926993
  | 31 => 338241895
  | 32 => 666307205
  | 33 => 773529912
  | 34 => 1294757372
  | 35 => 1396182291
  | 36 => 1695183700
  | 37 => 1986661051
  | 38 => 2177026350
  | 39 => 2456956037
  | 40 => 2730485921
  | 41 => 2820302411
  | 42 => 3259730800
  | 43 => 3345764771
  | 44 => 3516065817
  | 45 => 3600352804
  | 46 => 4094571909
  | 47 => 275423344
  | 48 => 430227734
  | 49 => 506948616
  | 50 => 659060556
  | 51 => 883997877
  | 52 => 958139571
  | 53 => 1322822218
  | 54 => 1537002063
  | 55 => 1747873779
  | 56 => 1955562222
  | 57 => 2024104815
  | 58 => 2227730452
  | 59 => 2361852424
  | 60 => 2428436474
  | 61 => 2756734187
  | 62 => 3204031479
  | 63 => 3329325298
  | _ => 0
def fs_COIN (k : Nat) : Int32 := match k with
  | 0 => 82
  | 1 => 76
  | 2 => 77
  | 3 => 49
  | 4 => 0
  | 5 => 0
  | 6 => 1
  | 7 => 4
  | 8 => 1
  | 9 => 3
  | 10 => 0
  | 11 => 0
  | 12 => 0
  | 13 => 6
  | 14 => 1
  | 15 => 1
  | 16 => 3
  | 17 => 1
  | 18 => 6
  | 19 => 0
  | 20 => 0
  | 21 => 0
  | 22 => 1
  | 23 => 35
  | 24 => 1
  | 25 => 2
  | 26 => 5
  | 27 => 6
  | 28 => 0
  | 29 => 0
  | 30 => 0
  | 31 => 0
  | 32 => 1
  | 33 => 35
  | 34 => 1
  | 35 => 1
  | 36 => 8
  | 37 => 6
  | 38 => 0
  | 39 => 1
  | 40 => 3
  | 41 => 0
  | 42 => 0
  | 43 => 1
  | 44 => 35
  | 45 => 1
  | 46 => 2
  | 47 => 6
  | 48 => 0
  | 49 => 6
  | 50 => 0
  | 51 => 1
  | 52 => 6
  | 53 => 0
  | 54 => 0
  | 55 => 0
  | 56 => 1
  | 57 => 35
  | 58 => 1
  | 59 => 2
  | 60 => 6
  | 61 => 0
  | 62 => 3
  | 63 => 2
  | 64 => 6
  | 65 => 0
  | 66 => 6
  | 67 => 0
  | 68 => 0
  | 69 => 0
  | 70 => 1
  | 71 => 35
  | 72 => 1
  | 73 => 1
  | 74 => 5
  | 75 => 1
  | 76 => 3
  | 77 => 0
  | 78 => 0
  | 79 => 1
  | 80 => 35
  | _ => 0
/-- the static rows, and where the coin's bytes lie -/
def SKs (sk : Nat → Nat) (a0 : Nat) (A : Nat → Prop) (U : State) (H : Heap) : Prop := (va_Z "ResourceLedger$Program" "COIN_BYTES" "[B" (.ref a0) A U H ∧ va_T .byte a0 81 (fun j => .int (fs_COIN j)) A U H) ∧ (va_Z "ResourceLedger$Digest" "FIRST" "[I" (.ref (sk 0)) A U H ∧ va_T .int (sk 0) 8 (fun j => .int (fs_FIRST j)) A U H) ∧ (va_Z "ResourceLedger$Digest" "K" "[I" (.ref (sk 1)) A U H ∧ va_T .int (sk 1) 64 (fun j => .int (fs_K j)) A U H) ∧ (va_Z "ResourceLedgerModel$Digester" "CONSTANTS" "[J" (.ref (sk 2)) A U H ∧ va_T .long (sk 2) 64 (fun j => .long (fs_C j)) A U H)
theorem SKs.moved {sk : Nat → Nat} {a0 : Nat} {A : Nat → Prop} {u U : State} {H : Heap} (hvm : u.vm.Alike U.vm) (h : SKs sk a0 A u H) : SKs sk a0 A U H := ⟨⟨h.1.1.moved hvm, h.1.2.moved hvm⟩, ⟨h.2.1.1.moved hvm, h.2.1.2.moved hvm⟩, ⟨h.2.2.1.1.moved hvm, h.2.2.1.2.moved hvm⟩, ⟨h.2.2.2.1.moved hvm, h.2.2.2.2.moved hvm⟩⟩
theorem SKs.kept {sk : Nat → Nat} {a0 : Nat} {A : Nat → Prop} {U : State} {H H1 : Heap} (h : SKs sk a0 A U H) (hq : ∀ a : Nat, a < H.size → ¬ A a → H1[a]? = H[a]?) : SKs sk a0 A U H1 := ⟨⟨h.1.1.kept hq, h.1.2.kept hq⟩, ⟨h.2.1.1.kept hq, h.2.1.2.kept hq⟩, ⟨h.2.2.1.1.kept hq, h.2.2.1.2.kept hq⟩, ⟨h.2.2.2.1.kept hq, h.2.2.2.2.kept hq⟩⟩
theorem SKs.narrow {sk : Nat → Nat} {a0 : Nat} {A B : Nat → Prop} {U : State} {H : Heap} (h : SKs sk a0 A U H) (hAB : ∀ q, B q → A q) : SKs sk a0 B U H := ⟨⟨h.1.1.narrow hAB, h.1.2.narrow hAB⟩, ⟨h.2.1.1.narrow hAB, h.2.1.2.narrow hAB⟩, ⟨h.2.2.1.1.narrow hAB, h.2.2.1.2.narrow hAB⟩, ⟨h.2.2.2.1.narrow hAB, h.2.2.2.2.narrow hAB⟩⟩
/-- a row of bytes of the world, or the coin's -/
def rb (sh : Nat → Nat × Nat) (n : Nat) (z : St) (k : Nat) (i : Int32) : Option Int32 := if k = CBK then (if okI i 81 = true then some (fs_COIN i.toNatClampNeg) else none) else if okA sh n k 100 i = true then some (z.1 k i.toNatClampNeg) else none
def rlen (sh : Nat → Nat × Nat) (n : Nat) (k : Nat) : Option Int32 := if k = CBK then some 81 else if okO sh n k 100 = true then some (Int32.ofNat (sh k).2) else none
/-! MAKING CELLS: the next cell takes the next number; addresses of old ones stay -/
def shx (sh : Nat → Nat × Nat) (n : Nat) (c : Nat × Nat) : Nat → Nat × Nat := fun k => if k = n then c else sh k
def ax (a : Nat → Nat) (n q : Nat) : Nat → Nat := fun k => if k = n then q else a k
def zx (z : St) (n : Nat) : St := (fun k j => if k = n then 0 else z.1 k j, fun k j => if k = n then 0 else z.2.1 k j, fun k j => if k = n then none else z.2.2 k j)
/-- links go to cells that are there, or to the coin's bytes -/
def lk (z : St) (n : Nat) : Prop := ∀ k j q, z.2.2 k j = some q → q < n ∨ q = CBK
theorem lk_si {z : St} {n k j : Nat} {v : Int32} (h : lk z n) : lk (si z k j v) n := h
theorem lk_sl {z : St} {n k j : Nat} {v : Int64} (h : lk z n) : lk (sl z k j v) n := h
theorem lk_sq0 {z : St} {n k j : Nat} (h : lk z n) : lk (sq z k j none) n := by
  intro k' j' q e
  simp only [sq] at e
  split at e
  · split at e
    · cases e
    · exact h _ _ _ e
  · exact h _ _ _ e
theorem lk_sq1 {z : St} {n k j v : Nat} (h : lk z n) (hv : v < n ∨ v = CBK) : lk (sq z k j (some v)) n := by
  intro k' j' q e
  simp only [sq] at e
  split at e
  · split at e
    · cases e; exact hv
    · exact h _ _ _ e
  · exact h _ _ _ e
theorem lk_zx {z : St} {n : Nat} (h : lk z n) : lk (zx z n) (n + 1) := by
  intro k' j' q e
  simp only [zx] at e
  split at e
  · cases e
  · rcases h _ _ _ e with h | h
    · exact Or.inl (Nat.lt_succ_of_lt h)
    · exact Or.inr h
def alc {β : Type} (sh : Nat → Nat × Nat) (n : Nat) (z : St) (c : Nat × Nat) (f : (Nat → Nat × Nat) → Nat → St → Nat → Option β) : Option β := grd (decide (n < CBK)) (f (shx sh n c) (n + 1) (zx z n) n)
def cala {α β : Type} (o : Option ((Nat → Nat × Nat) × Nat × St × α)) (f : (Nat → Nat × Nat) → Nat → St → α → Option β) : Option β := match o with
  | some (sh, n, z, r) => f sh n z r
  | none => none
theorem cala_some {α β : Type} {o : Option ((Nat → Nat × Nat) × Nat × St × α)} {f : (Nat → Nat × Nat) → Nat → St → α → Option β} {y : β} (h : cala o f = some y) : ∃ sh n z r, o = some (sh, n, z, r) ∧ f sh n z r = some y := by
  cases o with
  | some q => exact ⟨q.1, q.2.1, q.2.2.1, q.2.2.2, rfl, h⟩
  | none => exact absurd h (by simp [cala])
theorem rta_some {α : Type} {sh sh8 : Nat → Nat × Nat} {n n8 : Nat} {z z8 : St} {x r8 : α} (h : some (sh, n, z, x) = some (sh8, n8, z8, r8)) : sh8 = sh ∧ n8 = n ∧ z8 = z ∧ r8 = x := by
  cases h
  exact ⟨rfl, rfl, rfl, rfl⟩
def okN (n k : Nat) : Bool := decide (k < n) || k == CBK
theorem okN_at {n k : Nat} (h : okN n k = true) : k < n ∨ k = CBK := by
  simp only [okN, Bool.or_eq_true, decide_eq_true_eq, beq_iff_eq] at h
  exact h
def okL (i : Int32) (b : Nat) : Bool := decide (0 ≤ i.toInt) && decide (i.toNatClampNeg ≤ b)
theorem okL_at {i : Int32} {b : Nat} (h : okL i b = true) : ¬ i < 0 ∧ i.toNatClampNeg ≤ b := by
  simp only [okL, Bool.and_eq_true, decide_eq_true_eq] at h
  exact ⟨nneg h.1, h.2⟩
theorem hag_new {a0 a a' : Nat → Nat} {n0 n n' : Nat} (h : (∀ k, k < n0 ∨ k = CBK → a k = a0 k) ∧ n0 ≤ n) (hax : ∀ k, k < n ∨ k = CBK → a' k = a k) (hn : n ≤ n') : (∀ k, k < n0 ∨ k = CBK → a' k = a0 k) ∧ n0 ≤ n' :=
  ⟨fun k hk => (hax k (hk.imp (fun q => Nat.lt_of_lt_of_le q h.2) id)).trans (h.1 k hk), Nat.le_trans h.2 hn⟩
/-- what a new cell holds -/
def nE (cy : Nat → ClassId) (c : Nat × Nat) : va_E := if c.1 < 100 then .inr (c.1, (tgs.getD c.1 []).map (fun t => match t with | 0 => .int 0 | 1 => .long 0 | _ => .null))
  else .inl (cy (c.1 - 100), c.2, if c.1 = 102 then .inr (.inl (fun _ => 0)) else if c.1 < 104 then .inl (fun _ => 0) else .inr (.inr (.inr (.inr (fun _ => none)))))
theorem Wd_snoc {cy : Nat → ClassId} {a : Nat → Nat} {sh : Nat → Nat × Nat} {n q : Nat} {z z' : St} {c : Nat × Nat} {e : va_E} (hk : lk z n) (hc : n < CBK) (h1 : ∀ k, k ≠ n → z'.1 k = z.1 k) (h2 : ∀ k, k ≠ n → z'.2.1 k = z.2.1 k) (h3 : ∀ k, k ≠ n → z'.2.2 k = z.2.2 k) (he : cE cy (ax a n q) (shx sh n c) z' n = e) : (Wd cy a sh n z) ++ [(q, e)] = Wd cy (ax a n q) (shx sh n c) (n + 1) z' := by
  unfold Wd
  rw [List.range_succ, List.map_append]
  congr 1
  · apply List.map_congr_left
    intro k hkn
    have hlt : k < n := List.mem_range.mp hkn
    have hne : k ≠ n := Nat.ne_of_lt hlt
    have e4 : ∀ j, (z.2.2 k j).map (ax a n q) = (z.2.2 k j).map a := by
      intro j
      cases hq : z.2.2 k j with
      | none => rfl
      | some w =>
        have hw : w ≠ n := by
          rcases hk k j w hq with h | h
          · exact Nat.ne_of_lt h
          · rw [h]; exact (Nat.ne_of_lt hc).symm
        simp [ax, hw]
    have e5 : (ax a n q) k = a k := by simp [ax, hne]
    have e6 : (shx sh n c) k = sh k := by simp [shx, hne]
    have e7 : ∀ t j, fv (ax a n q) z' k t j = fv a z k t j := by
      intro t j
      unfold fv
      rw [h1 k hne, h2 k hne, h3 k hne, e4]
    have e8 : ∀ ci, fl (ax a n q) z' ci k = fl a z ci k := by
      intro ci
      unfold fl
      congr 1
      funext j t
      exact e7 t j
    rw [e5]
    unfold cE
    rw [e6, h1 k hne, h2 k hne, h3 k hne, e8]
    simp only [e4]
  · simp only [List.map_cons, List.map_nil]
    rw [he, show (ax a n q) n = q by simp [ax]]
theorem Wd_new {cy : Nat → ClassId} {a : Nat → Nat} {sh : Nat → Nat × Nat} {n q : Nat} {z : St} {c : Nat × Nat} (hk : lk z n) (hc : n < CBK) : (Wd cy a sh n z) ++ [(q, nE cy c)] = Wd cy (ax a n q) (shx sh n c) (n + 1) (zx z n) := by
  refine Wd_snoc hk hc (fun k h => by funext j; simp [zx, h]) (fun k h => by funext j; simp [zx, h]) (fun k h => by funext j; simp [zx, h]) ?_
  have e6 : (shx sh n c) n = c := by simp [shx]
  have e1 : (zx z n).1 n = fun _ => 0 := by funext j; simp [zx]
  have e2 : (zx z n).2.1 n = fun _ => 0 := by funext j; simp [zx]
  have e3 : (zx z n).2.2 n = fun _ => none := by funext j; simp [zx]
  unfold cE nE
  rw [e6, e1, e2, e3]
  have e9 : fl (ax a n q) (zx z n) c.1 n = (tgs.getD c.1 []).map (fun t => match t with | 0 => Value.int 0 | 1 => Value.long 0 | _ => Value.null) := by
    unfold fl
    apply List.ext_getElem?
    intro i
    rw [List.getElem?_mapIdx, List.getElem?_map]
    cases (tgs.getD c.1 [])[i]? with
    | none => rfl
    | some t =>
      show some (fv _ _ _ _ _) = some _
      unfold fv
      rw [e1, e2, e3]
      match t with
      | 0 => rfl
      | 1 => rfl
      | t + 2 => rfl
  rw [e9]
  rfl
/-- a new row of bytes, like row k -/
def zk (z : St) (n k : Nat) : St := (fun k' j => if k' = n then z.1 k j else z.1 k' j, fun k' j => if k' = n then 0 else z.2.1 k' j, fun k' j => if k' = n then none else z.2.2 k' j)
def alk {β : Type} (sh : Nat → Nat × Nat) (n : Nat) (z : St) (k : Nat) (f : (Nat → Nat × Nat) → Nat → St → Nat → Option β) : Option β := grd (decide (n < CBK)) (f (shx sh n (100, (sh k).2)) (n + 1) (zk z n k) n)
theorem lk_zk {z : St} {n k : Nat} (h : lk z n) : lk (zk z n k) (n + 1) := by
  intro k' j' q e
  simp only [zk] at e
  split at e
  · cases e
  · rcases h _ _ _ e with h | h
    · exact Or.inl (Nat.lt_succ_of_lt h)
    · exact Or.inr h
def okBy (w : Nat) (f : Nat → Int32) : Bool := (List.range w).all (fun j => fits .byte (.int (f j)))
theorem okBy_at {w : Nat} {f : Nat → Int32} (h : okBy w f = true) : ∀ j, j < w → fits .byte (.int (f j)) = true := fun j hj => List.all_eq_true.mp h j (List.mem_range.mpr hj)
theorem Wd_newk {cy : Nat → ClassId} {a : Nat → Nat} {sh : Nat → Nat × Nat} {n q k w : Nat} {z : St} (hk : lk z n) (hc : n < CBK) : (Wd cy a sh n z) ++ [(q, .inl (cy 0, w, .inl (z.1 k)))] = Wd cy (ax a n q) (shx sh n (100, w)) (n + 1) (zk z n k) := by
  refine Wd_snoc hk hc (fun k h => by funext j; simp [zk, h]) (fun k h => by funext j; simp [zk, h]) (fun k h => by funext j; simp [zk, h]) ?_
  have e6 : (shx sh n (100, w)) n = (100, w) := by simp [shx]
  have e1 : (zk z n k).1 n = z.1 k := by funext j; simp [zk]
  unfold cE
  rw [e6, e1]
  rfl
def scb (z : St) (k : Nat) (f : Nat → Int32) (sp dp m : Nat) : St := sc z k f sp dp m
theorem Wd_scb {cy : Nat → ClassId} {a : Nat → Nat} {sh : Nat → Nat × Nat} {n : Nat} {z : St} {k w sp dp m : Nat} {f : Nat → Int32} (hs : sh k = (100, w)) : (Wd cy a sh n z).set k (a k, .inl (cy 0, w, .inl (va_cpy f (z.1 k) sp dp m))) = Wd cy a sh n (scb z k f sp dp m) := by
  apply Wd_set
  · have e : (scb z k f sp dp m).1 k = va_cpy f (z.1 k) sp dp m := by funext i; simp [scb, sc]
    unfold cE
    rw [hs, e]
    rfl
  · intro i hi
    have e1 : (scb z k f sp dp m).1 i = z.1 i := by funext x; simp [scb, sc, hi]
    unfold cE fl fv
    rw [e1]
    rfl
