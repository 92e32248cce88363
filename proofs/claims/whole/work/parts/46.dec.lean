/-! PURE FUNCTIONS OF METHODS: none where a link is null, a place is not in its row, a cell is of another shape, or the turns of a loop are spent -/
def grd {β : Type} (b : Bool) (x : Option β) : Option β := match b with
  | true => x
  | false => none
theorem grd_some {β : Type} {b : Bool} {x : Option β} {y : β} (h : grd b x = some y) : b = true ∧ x = some y := by
  cases b with
  | true => exact ⟨rfl, h⟩
  | false => exact absurd h (by simp [grd])
def lt_ {α β : Type} (v : α) (f : α → Option β) : Option β := f v
theorem lt_at {α β : Type} {v w : α} {f : α → Option β} {y : β} (e : w = v) (h : lt_ v f = some y) : f w = some y := by subst e; exact h
def lnk {β : Type} (q : Option Nat) (f : Nat → Option β) : Option β := match q with
  | some k => f k
  | none => none
theorem lnk_some {β : Type} {q : Option Nat} {f : Nat → Option β} {y : β} (h : lnk q f = some y) : ∃ k, q = some k ∧ f k = some y := by
  cases q with
  | some k => exact ⟨k, rfl, h⟩
  | none => exact absurd h (by simp [lnk])
def cal {α β : Type} (o : Option (St × α)) (f : St → α → Option β) : Option β := match o with
  | some (z, r) => f z r
  | none => none
theorem cal_some {α β : Type} {o : Option (St × α)} {f : St → α → Option β} {y : β} (h : cal o f = some y) : ∃ z r, o = some (z, r) ∧ f z r = some y := by
  cases o with
  | some q => exact ⟨q.1, q.2, rfl, h⟩
  | none => exact absurd h (by simp [cal])
theorem de_start {p : Program} {l : Launch} {e : Env} {R : Room} {s : State} {m : MethodId} {args : Array Value} {below : List Frame} {meth : Method} {c : Code} {A : Nat → Prop} {D : va_G} {cl : List vw_C} {ws : va_W} {cells slots : Nat} {Q : State → Prop} {g : JFrame} (hS : va_S A s.heap s.heap []) (hP : va_P D cl ws s.heap) (k : ∀ (H : Heap) (locs : List Loc), va_S A s.heap H locs → va_P D cl ws H → W p l e R s m args below meth c H locs cells slots Q g) : W p l e R s m args below meth c s.heap [] cells slots Q g := k _ _ hS hP
theorem de_loop {p : Program} {l : Launch} {e : Env} {R : Room} {s : State} {m : MethodId} {args : Array Value} {below : List Frame} {meth : Method} {c : Code} {cells slots : Nat} {Q : State → Prop} {h : Nat} {α β : Type} (I : α → Array Slot → Heap → List Loc → Prop) (fn : Nat → α → Option β) (y : β)
    (step : ∀ (f : Nat) (x : α) (ls : Array Slot) (H : Heap) (locs : List Loc), (∀ (x' : α) (ls' : Array Slot) (H' : Heap) (locs' : List Loc), I x' ls' H' locs' → fn f x' = some y → W p l e R s m args below meth c H' locs' cells slots Q (F0 m h ls' [])) → I x ls H locs → fn (f + 1) x = some y → W p l e R s m args below meth c H locs cells slots Q (F0 m h ls []))
    (zero : ∀ x, fn 0 x = none) : ∀ (f : Nat) (x : α) (ls : Array Slot) (H : Heap) (locs : List Loc), I x ls H locs → fn f x = some y → W p l e R s m args below meth c H locs cells slots Q (F0 m h ls []) := by
  intro f
  induction f with
  | zero => intro x ls H locs _ hf; rw [zero] at hf; exact absurd hf (by simp)
  | succ f ih => exact fun x ls H locs hI hf => step f x ls H locs ih hI hf
theorem tbd_ne {x k : Int32} (h : ¬ x = k) : x.toInt ≠ k.toInt := fun e => h (Int32.toInt_inj.mp e)
def okZ (x : Int32) : Bool := x == 0 || x == 1
theorem nar_z {x : Int32} (h : okZ x = true) : narrow .boolean (.int x) = .int x := by
  simp only [okZ, Bool.or_eq_true, beq_iff_eq] at h
  rcases h with h | h
  · rw [h]; rfl
  · rw [h]; rfl
theorem Wd_sq1 {cy : Nat → ClassId} {a : Nat → Nat} {sh : Nat → Nat × Nat} {n : Nat} {z : St} {k ci w j k1 : Nat} (hs : sh k = (ci, w)) (hc : ci < 100) (h : (tgs.getD ci [])[j]? = some 2) : (Wd cy a sh n z).set k (a k, .inr (ci, (fl a z ci k).set j (.ref (a k1)))) = Wd cy a sh n (sq z k j (some k1)) := Wd_sq (v := some k1) hs hc h
theorem Wd_sq0 {cy : Nat → ClassId} {a : Nat → Nat} {sh : Nat → Nat × Nat} {n : Nat} {z : St} {k ci w j : Nat} (hs : sh k = (ci, w)) (hc : ci < 100) (h : (tgs.getD ci [])[j]? = some 2) : (Wd cy a sh n z).set k (a k, .inr (ci, (fl a z ci k).set j .null)) = Wd cy a sh n (sq z k j none) := Wd_sq (v := none) hs hc h
theorem de_cut {p : Program} {l : Launch} {e : Env} {R : Room} {s : State} {m : MethodId} {args : Array Value} {below : List Frame} {meth : Method} {c : Code} {cells slots : Nat} {Q : State → Prop} {h : Nat} {α β : Type} {H0 : Heap} {locs0 : List Loc} {g0 : JFrame} (stk : α → List Value) (I : α → Array Slot → Heap → List Loc → Prop) (fn : α → Option β) (y : β)
    (blk : ∀ (x : α) (ls : Array Slot) (H : Heap) (locs : List Loc), I x ls H locs → fn x = some y → W p l e R s m args below meth c H locs cells slots Q (F0 m h ls (stk x)))
    (main : (∀ (x : α) (ls : Array Slot) (H : Heap) (locs : List Loc), I x ls H locs → fn x = some y → W p l e R s m args below meth c H locs cells slots Q (F0 m h ls (stk x))) → W p l e R s m args below meth c H0 locs0 cells slots Q g0) : W p l e R s m args below meth c H0 locs0 cells slots Q g0 := main blk
def nul {β : Type} (q : Option Nat) (x : Option β) (f : Nat → Option β) : Option β := match q with
  | none => x
  | some k => f k
theorem nul_none {β : Type} {x : Option β} {f : Nat → Option β} {y : β} (h : nul none x f = some y) : x = some y := h
theorem nul_some {β : Type} {x : Option β} {f : Nat → Option β} {y : β} {k : Nat} (h : nul (some k) x f = some y) : f k = some y := h
def okO (sh : Nat → Nat × Nat) (n k c : Nat) : Bool := decide (k < n) && (sh k).1 == c
theorem okO_at {sh : Nat → Nat × Nat} {n k c : Nat} (h : okO sh n k c = true) : k < n ∧ sh k = (c, (sh k).2) := by
  simp only [okO, Bool.and_eq_true, decide_eq_true_eq, beq_iff_eq] at h
  exact ⟨h.1, by rw [← h.2]⟩
def okA (sh : Nat → Nat × Nat) (n k c : Nat) (i : Int32) : Bool := okO sh n k c && (decide (0 ≤ i.toInt) && decide (i.toInt < (sh k).2))
theorem okA_at {sh : Nat → Nat × Nat} {n k c : Nat} {i : Int32} (h : okA sh n k c i = true) : k < n ∧ sh k = (c, (sh k).2) ∧ vp_in i (sh k).2 := by
  simp only [okA, Bool.and_eq_true, decide_eq_true_eq] at h
  exact ⟨(okO_at h.1).1, (okO_at h.1).2, vp_in_iff.mpr h.2⟩
theorem fl_q {a : Nat → Nat} {z : St} {ci k j k1 : Nat} (h : (tgs.getD ci [])[j]? = some 2) (e : z.2.2 k j = some k1) : (fl a z ci k)[j]? = some (.ref (a k1)) := by
  rw [fl_at h]
  unfold fv
  rw [e]
  rfl
theorem fl_len {a : Nat → Nat} {z : St} {ci k : Nat} : (fl a z ci k).length = (tgs.getD ci []).length := List.length_mapIdx
theorem ret_some {α : Type} {z z8 : St} {x r8 : α} (h : some (z, x) = some (z8, r8)) : z8 = z ∧ r8 = x := by
  cases h
  exact ⟨rfl, rfl⟩
theorem de_free {A : Nat → Prop} {ws : va_W} {H0 H : Heap} {locs : List Loc} (hD : va_D A ws) (hS : va_S A H0 H locs) (hA : ∀ q : Nat, H0.size ≤ q → A q) : ∀ q, va_A ws H.size q → A q := fun q h => Or.elim h (fun ⟨k, e, h⟩ => hD.2 k _ h) (fun h => hA q (Nat.le_trans hS.1 h))
theorem md_X7_placeCount_1 : (.fieldLink RX7 51 "ResourceLedger$State" "accountCount" "I" : Cond) ∈ wsX7_placeCount := List.mem_of_getElem? (i := 1) rfl
theorem iwd_X7_placeCount_X7 : ∀ w ∈ wsX70, w ∈ wsX7_placeCount := fun _ h => List.mem_cons_of_mem _ (List.mem_append_right _ h)
theorem md_X7_placeCount_2 : (.fieldLink RX7 55 "ResourceLedger$State" "moduleCount" "I" : Cond) ∈ wsX7_placeCount := List.mem_of_getElem? (i := 2) rfl
theorem md_X7_placeCount_3 : (.fieldLink RX7 58 "ResourceLedger$State" "resourceCount" "I" : Cond) ∈ wsX7_placeCount := List.mem_of_getElem? (i := 3) rfl
def fn_X7_placeCount (F : Nat) (sh : Nat → Nat × Nat) (n : Nat) (z : St) (h0 : Nat) : Option (St × Int32) := grd (okO sh n h0 7) (some (z, (((z.1 h0 3) + (z.1 h0 5)) + (z.1 h0 10))))
set_option maxHeartbeats 4000000 in
set_option maxRecDepth 100000 in
theorem de_X7_placeCount (l : Launch) (dC : Nat → ClassId) (dI : Nat → Nat → Nat) (cy : Nat → ClassId) (a : Nat → Nat) (sh : Nat → Nat × Nat) (n sz : Nat) (F : Nat) (z : St) (h0 : Nat) {z8 : St} {r8 : Int32} (hf : fn_X7_placeCount F sh n z h0 = some (z8, r8)) : Met l yX7_placeCount wsX7_placeCount ({ frames := 0, cells := 0, slots := 0, locals := 0 }) (va_Pc [.ref (a h0)] (fun U => U.heap.size = sz ∧ va_P (dC, dI) vwCl (Wd cy a sh n z) U.heap ∧ va_K (dC, dI) vwCl (TYS cy) U ∧ va_D (fun _ => True) (Wd cy a sh n z) ∧ NK U)) (va_Qi (fun (r9 : Int32) (u : Unit) => r9 = r8) (fun u t => va_P (dC, dI) vwCl (Wd cy a sh n z8) t.heap ∧ va_K (dC, dI) vwCl (TYS cy) t ∧ va_D (va_A (Wd cy a sh n z) sz) (Wd cy a sh n z8)) (va_A (Wd cy a sh n z) sz)) 0 0 (va_A (Wd cy a sh n z) sz) := by
  refine Met.ofW (cc := cX7_placeCount) (maxL := 1) (ret := (some .int)) (by decide) rfl ?_
  intro p e s m args below meth c s₁ B hml hv
  obtain ⟨rfl, hsz, hP, hK, hD0, hN⟩ := hv
  have hx := B.exec
  have hb := B.bytes
  have hr := B.returns
  have hts := atoms_spec (ws := wsX7_placeCount) B.pre
  have hown : s.vm.findClass RX7 = some m.cls := findClass_of_methodNamed B.named
  have hlocks := B.notSynchronized
  subst hsz
  have hD := hD0.self (sz := s.heap.size)
  clear hD0
  generalize hAe : va_A (Wd cy a sh n z) s.heap.size = A at hD ⊢
  have hA : ∀ q : Nat, s.heap.size ≤ q → A q := fun q h => by rw [← hAe]; exact Or.inr h
  clear hAe
  have hS : va_S A s.heap s.heap [] := va_S.rf
  have hl := lv_entry ([.ref (a h0)]) (n := 1) (Nat.le_of_ble_eq_true rfl)
  rw [lg_entry_eq]
  generalize (lg_sl ([.ref (a h0)]) ++ List.replicate (1 - (lg_sl ([.ref (a h0)])).length) Slot.unset).toArray = ls at hl ⊢
  replace hl : lv_has ls 1 [(0, .ref (a h0))] := hl
  unfold fn_X7_placeCount at hf
  refine de_start hS hP (fun H locs hS hP => ?_)
  refine lv_aload_n hx hb dX7_placeCount_0 rfl (lv_at hl 0 rfl) ?_
  obtain ⟨g_1, hf⟩ := grd_some hf
  obtain ⟨kg_1, sg_1⟩ := okO_at g_1
  refine va_get (D := (dC, dI)) (ci := 7) (v := .int (z.1 h0 3)) (C := RX7) (T := TX7) (N := 16) hx hb hts iwd_X7_placeCount_X7 hown hK hP h0 (Wd_ob kg_1 sg_1 (by decide)) rfl 3 (by decide) (hts _ md_X7_placeCount_1) (fun _ h9 => h9) (fl_at (t := 0) rfl) dX7_placeCount_1 ?_
  refine lv_aload_n hx hb dX7_placeCount_4 rfl (lv_at hl 0 rfl) ?_
  refine va_get (D := (dC, dI)) (ci := 7) (v := .int (z.1 h0 5)) (C := RX7) (T := TX7) (N := 16) hx hb hts iwd_X7_placeCount_X7 hown hK hP h0 (Wd_ob kg_1 sg_1 (by decide)) rfl 5 (by decide) (hts _ md_X7_placeCount_2) (fun _ h9 => h9) (fl_at (t := 0) rfl) dX7_placeCount_5 ?_
  refine lv_iadd hx hb dX7_placeCount_8 ?_
  refine lv_aload_n hx hb dX7_placeCount_9 rfl (lv_at hl 0 rfl) ?_
  refine va_get (D := (dC, dI)) (ci := 7) (v := .int (z.1 h0 10)) (C := RX7) (T := TX7) (N := 16) hx hb hts iwd_X7_placeCount_X7 hown hK hP h0 (Wd_ob kg_1 sg_1 (by decide)) rfl 10 (by decide) (hts _ md_X7_placeCount_3) (fun _ h9 => h9) (fl_at (t := 0) rfl) dX7_placeCount_10 ?_
  refine lv_iadd hx hb dX7_placeCount_13 ?_
  obtain ⟨h8, h9⟩ := ret_some hf
  rw [h8, h9]
  exact W.iret (v := (((z.1 h0 3) + (z.1 h0 5)) + (z.1 h0 10))) hx hb hr (fun t ht hW => ⟨⟨(((z.1 h0 3) + (z.1 h0 5)) + (z.1 h0 10)), (), rfl, rfl, by rw [ht]; exact hP, va_K.moved hW.alike hK, hD⟩, hS.F ht⟩) hS.2.2 dX7_placeCount_14

theorem md_X11_weave_1 : (.fieldLink RX11 150 "ResourceLedger" "weaveLength" "I" : Cond) ∈ wsX11_weave := List.mem_of_getElem? (i := 1) rfl
theorem iwd_X11_weave_X11 : ∀ w ∈ wsX110, w ∈ wsX11_weave := fun _ h => List.mem_cons_of_mem _ (List.mem_append_right _ h)
def fn_X11_weave (F : Nat) (sh : Nat → Nat × Nat) (n : Nat) (z : St) (h0 : Nat) (x0 : Int64) : Option (St × Int32) := grd (okO sh n h0 11) (if (((z.1 h0 2) + 16) : Int32) ≤ 4096 then lt_ (si z h0 2 ((z.1 h0 2) + 16)) (fun z_4 => some (z_4, (z_4.1 h0 2))) else some (z, (-3)))
set_option maxHeartbeats 4000000 in
set_option maxRecDepth 100000 in
theorem de_X11_weave (l : Launch) (dC : Nat → ClassId) (dI : Nat → Nat → Nat) (cy : Nat → ClassId) (a : Nat → Nat) (sh : Nat → Nat × Nat) (n sz : Nat) (F : Nat) (z : St) (h0 : Nat) (x0 : Int64) {z8 : St} {r8 : Int32} (hf : fn_X11_weave F sh n z h0 x0 = some (z8, r8)) : Met l yX11_weave wsX11_weave ({ frames := 0, cells := 0, slots := 0, locals := 0 }) (va_Pc [.ref (a h0), .long x0] (fun U => U.heap.size = sz ∧ va_P (dC, dI) vwCl (Wd cy a sh n z) U.heap ∧ va_K (dC, dI) vwCl (TYS cy) U ∧ va_D (fun _ => True) (Wd cy a sh n z) ∧ NK U)) (va_Qi (fun (r9 : Int32) (u : Unit) => r9 = r8) (fun u t => va_P (dC, dI) vwCl (Wd cy a sh n z8) t.heap ∧ va_K (dC, dI) vwCl (TYS cy) t ∧ va_D (va_A (Wd cy a sh n z) sz) (Wd cy a sh n z8)) (va_A (Wd cy a sh n z) sz)) 0 0 (va_A (Wd cy a sh n z) sz) := by
  refine Met.ofW (cc := cX11_weave) (maxL := 3) (ret := (some .int)) (by decide) rfl ?_
  intro p e s m args below meth c s₁ B hml hv
  obtain ⟨rfl, hsz, hP, hK, hD0, hN⟩ := hv
  have hx := B.exec
  have hb := B.bytes
  have hr := B.returns
  have hts := atoms_spec (ws := wsX11_weave) B.pre
  have hown : s.vm.findClass RX11 = some m.cls := findClass_of_methodNamed B.named
  have hlocks := B.notSynchronized
  subst hsz
  have hD := hD0.self (sz := s.heap.size)
  clear hD0
  generalize hAe : va_A (Wd cy a sh n z) s.heap.size = A at hD ⊢
  have hA : ∀ q : Nat, s.heap.size ≤ q → A q := fun q h => by rw [← hAe]; exact Or.inr h
  clear hAe
  have hS : va_S A s.heap s.heap [] := va_S.rf
  have hl := lv_entry ([.ref (a h0), .long x0]) (n := 3) (Nat.le_of_ble_eq_true rfl)
  rw [lg_entry_eq]
  generalize (lg_sl ([.ref (a h0), .long x0]) ++ List.replicate (3 - (lg_sl ([.ref (a h0), .long x0])).length) Slot.unset).toArray = ls at hl ⊢
  replace hl : lv_has ls 3 [(0, .ref (a h0)), (1, .long x0)] := hl
  unfold fn_X11_weave at hf
  refine de_start hS hP (fun H locs hS hP => ?_)
  refine lv_aload_n hx hb dX11_weave_0 rfl (lv_at hl 0 rfl) ?_
  obtain ⟨g_1, hf⟩ := grd_some hf
  obtain ⟨kg_1, sg_1⟩ := okO_at g_1
  refine va_get (D := (dC, dI)) (ci := 11) (v := .int (z.1 h0 2)) (C := RX11) (T := TX11) (N := 13) hx hb hts iwd_X11_weave_X11 hown hK hP h0 (Wd_ob kg_1 sg_1 (by decide)) rfl 2 (by decide) (hts _ md_X11_weave_1) (fun _ h9 => h9) (fl_at (t := 0) rfl) dX11_weave_1 ?_
  refine lv_bipush (v := 16) hx hb dX11_weave_4 (by decide) ?_
  refine lv_iadd hx hb dX11_weave_6 ?_
  refine lv_sipush (v := 4096) hx hb dX11_weave_7 (by decide) ?_
  refine lv_icmp_le (tgt := 16) hx hb dX11_weave_10 (by decide) (fun c_2 => ?_) (fun c_2 => ?_)
  · skip
    rw [if_pos c_2] at hf
    refine lv_aload_n hx hb dX11_weave_16 rfl (lv_at hl 0 rfl) ?_
    refine lv_dup hx hb dX11_weave_17 rfl ?_
    refine va_get (D := (dC, dI)) (ci := 11) (v := .int (z.1 h0 2)) (C := RX11) (T := TX11) (N := 13) hx hb hts iwd_X11_weave_X11 hown hK hP h0 (Wd_ob kg_1 sg_1 (by decide)) rfl 2 (by decide) (hts _ md_X11_weave_1) (fun _ h9 => h9) (fl_at (t := 0) rfl) dX11_weave_18 ?_
    refine lv_bipush (v := 16) hx hb dX11_weave_21 (by decide) ?_
    refine lv_iadd hx hb dX11_weave_23 ?_
    refine va_put (D := (dC, dI)) (ci := 11) (v := .int ((z.1 h0 2) + 16)) (ty := .int) (C := RX11) (T := TX11) (N := 13) hx hb hts iwd_X11_weave_X11 tyX11 tyX11_ok nmX11 hown hK hP hD hS h0 (Wd_ob kg_1 sg_1 (by decide)) rfl 2 (by decide) (hts _ md_X11_weave_1) (fun _ h9 => h9) rfl (by decide +kernel) rfl rfl (by rw [fl_len]; decide) dX11_weave_24 (fun H_3 locs hP2 hD2 hS2 => ?_)
    rw [Wd_si sg_1 (by decide) rfl] at hP2 hD2
    obtain ⟨z_4, ez_4⟩ : ∃ w, w = si z h0 2 ((z.1 h0 2) + 16) := ⟨_, rfl⟩
    rw [← ez_4] at hP2 hD2
    replace hf := lt_at ez_4 hf
    clear ez_4
    replace hP := hP2
    replace hD := hD2
    replace hS := hS2
    clear hP2 hD2 hS2
    refine lv_aload_n hx hb dX11_weave_27 rfl (lv_at hl 0 rfl) ?_
    refine va_get (D := (dC, dI)) (ci := 11) (v := .int (z_4.1 h0 2)) (C := RX11) (T := TX11) (N := 13) hx hb hts iwd_X11_weave_X11 hown hK hP h0 (Wd_ob kg_1 sg_1 (by decide)) rfl 2 (by decide) (hts _ md_X11_weave_1) (fun _ h9 => h9) (fl_at (t := 0) rfl) dX11_weave_28 ?_
    obtain ⟨h8, h9⟩ := ret_some hf
    rw [h8, h9]
    exact W.iret (v := (z_4.1 h0 2)) hx hb hr (fun t ht hW => ⟨⟨(z_4.1 h0 2), (), rfl, rfl, by rw [ht]; exact hP, va_K.moved hW.alike hK, hD⟩, hS.F ht⟩) hS.2.2 dX11_weave_31
  · skip
    rw [if_neg c_2] at hf
    refine lv_bipush (v := (-3)) hx hb dX11_weave_13 (by decide) ?_
    obtain ⟨h8, h9⟩ := ret_some hf
    rw [h8, h9]
    exact W.iret (v := (-3)) hx hb hr (fun t ht hW => ⟨⟨(-3), (), rfl, rfl, by rw [ht]; exact hP, va_K.moved hW.alike hK, hD⟩, hS.F ht⟩) hS.2.2 dX11_weave_15

theorem md_X11_begin_1 : (.fieldLink RX11 112 "ResourceLedger" "blockLength" "I" : Cond) ∈ wsX11_begin := List.mem_of_getElem? (i := 1) rfl
theorem iwd_X11_begin_X11 : ∀ w ∈ wsX110, w ∈ wsX11_begin := fun _ h => List.mem_cons_of_mem _ (List.mem_append_right _ h)
theorem md_X11_begin_2 : (.fieldLink RX11 115 "ResourceLedger" "doneLength" "I" : Cond) ∈ wsX11_begin := List.mem_of_getElem? (i := 2) rfl
def fn_X11_begin (F : Nat) (sh : Nat → Nat × Nat) (n : Nat) (z : St) (h0 : Nat) : Option (St × Int32) := grd (okO sh n h0 11) (lt_ (z.1 h0 4) (fun v_2 => lt_ (si z h0 4 0) (fun z_4 => lt_ (si z_4 h0 5 0) (fun z_6 => some (z_6, v_2)))))
set_option maxHeartbeats 4000000 in
set_option maxRecDepth 100000 in
theorem de_X11_begin (l : Launch) (dC : Nat → ClassId) (dI : Nat → Nat → Nat) (cy : Nat → ClassId) (a : Nat → Nat) (sh : Nat → Nat × Nat) (n sz : Nat) (F : Nat) (z : St) (h0 : Nat) {z8 : St} {r8 : Int32} (hf : fn_X11_begin F sh n z h0 = some (z8, r8)) : Met l yX11_begin wsX11_begin ({ frames := 0, cells := 0, slots := 0, locals := 0 }) (va_Pc [.ref (a h0)] (fun U => U.heap.size = sz ∧ va_P (dC, dI) vwCl (Wd cy a sh n z) U.heap ∧ va_K (dC, dI) vwCl (TYS cy) U ∧ va_D (fun _ => True) (Wd cy a sh n z) ∧ NK U)) (va_Qi (fun (r9 : Int32) (u : Unit) => r9 = r8) (fun u t => va_P (dC, dI) vwCl (Wd cy a sh n z8) t.heap ∧ va_K (dC, dI) vwCl (TYS cy) t ∧ va_D (va_A (Wd cy a sh n z) sz) (Wd cy a sh n z8)) (va_A (Wd cy a sh n z) sz)) 0 0 (va_A (Wd cy a sh n z) sz) := by
  refine Met.ofW (cc := cX11_begin) (maxL := 2) (ret := (some .int)) (by decide) rfl ?_
  intro p e s m args below meth c s₁ B hml hv
  obtain ⟨rfl, hsz, hP, hK, hD0, hN⟩ := hv
  have hx := B.exec
  have hb := B.bytes
  have hr := B.returns
  have hts := atoms_spec (ws := wsX11_begin) B.pre
  have hown : s.vm.findClass RX11 = some m.cls := findClass_of_methodNamed B.named
  have hlocks := B.notSynchronized
  subst hsz
  have hD := hD0.self (sz := s.heap.size)
  clear hD0
  generalize hAe : va_A (Wd cy a sh n z) s.heap.size = A at hD ⊢
  have hA : ∀ q : Nat, s.heap.size ≤ q → A q := fun q h => by rw [← hAe]; exact Or.inr h
  clear hAe
  have hS : va_S A s.heap s.heap [] := va_S.rf
  have hl := lv_entry ([.ref (a h0)]) (n := 2) (Nat.le_of_ble_eq_true rfl)
  rw [lg_entry_eq]
  generalize (lg_sl ([.ref (a h0)]) ++ List.replicate (2 - (lg_sl ([.ref (a h0)])).length) Slot.unset).toArray = ls at hl ⊢
  replace hl : lv_has ls 2 [(0, .ref (a h0))] := hl
  unfold fn_X11_begin at hf
  refine de_start hS hP (fun H locs hS hP => ?_)
  refine lv_aload_n hx hb dX11_begin_0 rfl (lv_at hl 0 rfl) ?_
  obtain ⟨g_1, hf⟩ := grd_some hf
  obtain ⟨kg_1, sg_1⟩ := okO_at g_1
  refine va_get (D := (dC, dI)) (ci := 11) (v := .int (z.1 h0 4)) (C := RX11) (T := TX11) (N := 13) hx hb hts iwd_X11_begin_X11 hown hK hP h0 (Wd_ob kg_1 sg_1 (by decide)) rfl 4 (by decide) (hts _ md_X11_begin_1) (fun _ h9 => h9) (fl_at (t := 0) rfl) dX11_begin_1 ?_
  refine lv_topi (fun v_2 ev_2 => ?_)
  replace hf := lt_at ev_2 hf
  clear ev_2
  refine lv_istore_n (lv' := [(1, .int v_2), (0, .ref (a h0))]) hx hb dX11_begin_4 rfl hl (by decide) rfl (fun ls hl2 => ?_)
  replace hl := hl2
  clear hl2
  refine lv_aload_n hx hb dX11_begin_5 rfl (lv_at hl 1 rfl) ?_
  refine lv_iconst (v := 0) hx hb dX11_begin_6 (by decide) ?_
  refine va_put (D := (dC, dI)) (ci := 11) (v := .int 0) (ty := .int) (C := RX11) (T := TX11) (N := 13) hx hb hts iwd_X11_begin_X11 tyX11 tyX11_ok nmX11 hown hK hP hD hS h0 (Wd_ob kg_1 sg_1 (by decide)) rfl 4 (by decide) (hts _ md_X11_begin_1) (fun _ h9 => h9) rfl (by decide +kernel) rfl rfl (by rw [fl_len]; decide) dX11_begin_7 (fun H_3 locs hP2 hD2 hS2 => ?_)
  rw [Wd_si sg_1 (by decide) rfl] at hP2 hD2
  obtain ⟨z_4, ez_4⟩ : ∃ w, w = si z h0 4 0 := ⟨_, rfl⟩
  rw [← ez_4] at hP2 hD2
  replace hf := lt_at ez_4 hf
  clear ez_4
  replace hP := hP2
  replace hD := hD2
  replace hS := hS2
  clear hP2 hD2 hS2
  refine lv_aload_n hx hb dX11_begin_10 rfl (lv_at hl 1 rfl) ?_
  refine lv_iconst (v := 0) hx hb dX11_begin_11 (by decide) ?_
  refine va_put (D := (dC, dI)) (ci := 11) (v := .int 0) (ty := .int) (C := RX11) (T := TX11) (N := 13) hx hb hts iwd_X11_begin_X11 tyX11 tyX11_ok nmX11 hown hK hP hD hS h0 (Wd_ob kg_1 sg_1 (by decide)) rfl 5 (by decide) (hts _ md_X11_begin_2) (fun _ h9 => h9) rfl (by decide +kernel) rfl rfl (by rw [fl_len]; decide) dX11_begin_12 (fun H_5 locs hP2 hD2 hS2 => ?_)
  rw [Wd_si sg_1 (by decide) rfl] at hP2 hD2
  obtain ⟨z_6, ez_6⟩ : ∃ w, w = si z_4 h0 5 0 := ⟨_, rfl⟩
  rw [← ez_6] at hP2 hD2
  replace hf := lt_at ez_6 hf
  clear ez_6
  replace hP := hP2
  replace hD := hD2
  replace hS := hS2
  clear hP2 hD2 hS2
  refine lv_iload_n hx hb dX11_begin_15 rfl (lv_at hl 0 rfl) ?_
  obtain ⟨h8, h9⟩ := ret_some hf
  rw [h8, h9]
  exact W.iret (v := v_2) hx hb hr (fun t ht hW => ⟨⟨v_2, (), rfl, rfl, by rw [ht]; exact hP, va_K.moved hW.alike hK, hD⟩, hS.F ht⟩) hS.2.2 dX11_begin_16

theorem md_X11_unweave_1 : (.fieldLink RX11 150 "ResourceLedger" "weaveLength" "I" : Cond) ∈ wsX11_unweave := List.mem_of_getElem? (i := 1) rfl
theorem iwd_X11_unweave_X11 : ∀ w ∈ wsX110, w ∈ wsX11_unweave := fun _ h => List.mem_cons_of_mem _ (List.mem_append_right _ h)
def fn_X11_unweave (F : Nat) (sh : Nat → Nat × Nat) (n : Nat) (z : St) (h0 : Nat) : Option (St × Int32) := grd (okO sh n h0 11) (lt_ (z.1 h0 2) (fun v_2 => lt_ (si z h0 2 0) (fun z_4 => some (z_4, v_2))))
set_option maxHeartbeats 4000000 in
set_option maxRecDepth 100000 in
theorem de_X11_unweave (l : Launch) (dC : Nat → ClassId) (dI : Nat → Nat → Nat) (cy : Nat → ClassId) (a : Nat → Nat) (sh : Nat → Nat × Nat) (n sz : Nat) (F : Nat) (z : St) (h0 : Nat) {z8 : St} {r8 : Int32} (hf : fn_X11_unweave F sh n z h0 = some (z8, r8)) : Met l yX11_unweave wsX11_unweave ({ frames := 0, cells := 0, slots := 0, locals := 0 }) (va_Pc [.ref (a h0)] (fun U => U.heap.size = sz ∧ va_P (dC, dI) vwCl (Wd cy a sh n z) U.heap ∧ va_K (dC, dI) vwCl (TYS cy) U ∧ va_D (fun _ => True) (Wd cy a sh n z) ∧ NK U)) (va_Qi (fun (r9 : Int32) (u : Unit) => r9 = r8) (fun u t => va_P (dC, dI) vwCl (Wd cy a sh n z8) t.heap ∧ va_K (dC, dI) vwCl (TYS cy) t ∧ va_D (va_A (Wd cy a sh n z) sz) (Wd cy a sh n z8)) (va_A (Wd cy a sh n z) sz)) 0 0 (va_A (Wd cy a sh n z) sz) := by
  refine Met.ofW (cc := cX11_unweave) (maxL := 2) (ret := (some .int)) (by decide) rfl ?_
  intro p e s m args below meth c s₁ B hml hv
  obtain ⟨rfl, hsz, hP, hK, hD0, hN⟩ := hv
  have hx := B.exec
  have hb := B.bytes
  have hr := B.returns
  have hts := atoms_spec (ws := wsX11_unweave) B.pre
  have hown : s.vm.findClass RX11 = some m.cls := findClass_of_methodNamed B.named
  have hlocks := B.notSynchronized
  subst hsz
  have hD := hD0.self (sz := s.heap.size)
  clear hD0
  generalize hAe : va_A (Wd cy a sh n z) s.heap.size = A at hD ⊢
  have hA : ∀ q : Nat, s.heap.size ≤ q → A q := fun q h => by rw [← hAe]; exact Or.inr h
  clear hAe
  have hS : va_S A s.heap s.heap [] := va_S.rf
  have hl := lv_entry ([.ref (a h0)]) (n := 2) (Nat.le_of_ble_eq_true rfl)
  rw [lg_entry_eq]
  generalize (lg_sl ([.ref (a h0)]) ++ List.replicate (2 - (lg_sl ([.ref (a h0)])).length) Slot.unset).toArray = ls at hl ⊢
  replace hl : lv_has ls 2 [(0, .ref (a h0))] := hl
  unfold fn_X11_unweave at hf
  refine de_start hS hP (fun H locs hS hP => ?_)
  refine lv_aload_n hx hb dX11_unweave_0 rfl (lv_at hl 0 rfl) ?_
  obtain ⟨g_1, hf⟩ := grd_some hf
  obtain ⟨kg_1, sg_1⟩ := okO_at g_1
  refine va_get (D := (dC, dI)) (ci := 11) (v := .int (z.1 h0 2)) (C := RX11) (T := TX11) (N := 13) hx hb hts iwd_X11_unweave_X11 hown hK hP h0 (Wd_ob kg_1 sg_1 (by decide)) rfl 2 (by decide) (hts _ md_X11_unweave_1) (fun _ h9 => h9) (fl_at (t := 0) rfl) dX11_unweave_1 ?_
  refine lv_topi (fun v_2 ev_2 => ?_)
  replace hf := lt_at ev_2 hf
  clear ev_2
  refine lv_istore_n (lv' := [(1, .int v_2), (0, .ref (a h0))]) hx hb dX11_unweave_4 rfl hl (by decide) rfl (fun ls hl2 => ?_)
  replace hl := hl2
  clear hl2
  refine lv_aload_n hx hb dX11_unweave_5 rfl (lv_at hl 1 rfl) ?_
  refine lv_iconst (v := 0) hx hb dX11_unweave_6 (by decide) ?_
  refine va_put (D := (dC, dI)) (ci := 11) (v := .int 0) (ty := .int) (C := RX11) (T := TX11) (N := 13) hx hb hts iwd_X11_unweave_X11 tyX11 tyX11_ok nmX11 hown hK hP hD hS h0 (Wd_ob kg_1 sg_1 (by decide)) rfl 2 (by decide) (hts _ md_X11_unweave_1) (fun _ h9 => h9) rfl (by decide +kernel) rfl rfl (by rw [fl_len]; decide) dX11_unweave_7 (fun H_3 locs hP2 hD2 hS2 => ?_)
  rw [Wd_si sg_1 (by decide) rfl] at hP2 hD2
  obtain ⟨z_4, ez_4⟩ : ∃ w, w = si z h0 2 0 := ⟨_, rfl⟩
  rw [← ez_4] at hP2 hD2
  replace hf := lt_at ez_4 hf
  clear ez_4
  replace hP := hP2
  replace hD := hD2
  replace hS := hS2
  clear hP2 hD2 hS2
  refine lv_iload_n hx hb dX11_unweave_10 rfl (lv_at hl 0 rfl) ?_
  obtain ⟨h8, h9⟩ := ret_some hf
  rw [h8, h9]
  exact W.iret (v := v_2) hx hb hr (fun t ht hW => ⟨⟨v_2, (), rfl, rfl, by rw [ht]; exact hP, va_K.moved hW.alike hK, hD⟩, hS.F ht⟩) hS.2.2 dX11_unweave_11

theorem md_X18_weave_1 : (.fieldLink RX18 640 "ResourceLedgerModel" "woven" "I" : Cond) ∈ wsX18_weave := List.mem_of_getElem? (i := 1) rfl
theorem iwd_X18_weave_X18 : ∀ w ∈ wsX180, w ∈ wsX18_weave := fun _ h => List.mem_cons_of_mem _ (List.mem_append_right _ h)
def fn_X18_weave (F : Nat) (sh : Nat → Nat × Nat) (n : Nat) (z : St) (h0 : Nat) (x0 : Int64) : Option (St × Int32) := grd (okO sh n h0 18) (if (((z.1 h0 51) + 16) : Int32) ≤ 4096 then lt_ (si z h0 51 ((z.1 h0 51) + 16)) (fun z_4 => some (z_4, (z_4.1 h0 51))) else some (z, (-3)))
set_option maxHeartbeats 4000000 in
set_option maxRecDepth 100000 in
theorem de_X18_weave (l : Launch) (dC : Nat → ClassId) (dI : Nat → Nat → Nat) (cy : Nat → ClassId) (a : Nat → Nat) (sh : Nat → Nat × Nat) (n sz : Nat) (F : Nat) (z : St) (h0 : Nat) (x0 : Int64) {z8 : St} {r8 : Int32} (hf : fn_X18_weave F sh n z h0 x0 = some (z8, r8)) : Met l yX18_weave wsX18_weave ({ frames := 0, cells := 0, slots := 0, locals := 0 }) (va_Pc [.ref (a h0), .long x0] (fun U => U.heap.size = sz ∧ va_P (dC, dI) vwCl (Wd cy a sh n z) U.heap ∧ va_K (dC, dI) vwCl (TYS cy) U ∧ va_D (fun _ => True) (Wd cy a sh n z) ∧ NK U)) (va_Qi (fun (r9 : Int32) (u : Unit) => r9 = r8) (fun u t => va_P (dC, dI) vwCl (Wd cy a sh n z8) t.heap ∧ va_K (dC, dI) vwCl (TYS cy) t ∧ va_D (va_A (Wd cy a sh n z) sz) (Wd cy a sh n z8)) (va_A (Wd cy a sh n z) sz)) 0 0 (va_A (Wd cy a sh n z) sz) := by
  refine Met.ofW (cc := cX18_weave) (maxL := 3) (ret := (some .int)) (by decide) rfl ?_
  intro p e s m args below meth c s₁ B hml hv
  obtain ⟨rfl, hsz, hP, hK, hD0, hN⟩ := hv
  have hx := B.exec
  have hb := B.bytes
  have hr := B.returns
  have hts := atoms_spec (ws := wsX18_weave) B.pre
  have hown : s.vm.findClass RX18 = some m.cls := findClass_of_methodNamed B.named
  have hlocks := B.notSynchronized
  subst hsz
  have hD := hD0.self (sz := s.heap.size)
  clear hD0
  generalize hAe : va_A (Wd cy a sh n z) s.heap.size = A at hD ⊢
  have hA : ∀ q : Nat, s.heap.size ≤ q → A q := fun q h => by rw [← hAe]; exact Or.inr h
  clear hAe
  have hS : va_S A s.heap s.heap [] := va_S.rf
  have hl := lv_entry ([.ref (a h0), .long x0]) (n := 3) (Nat.le_of_ble_eq_true rfl)
  rw [lg_entry_eq]
  generalize (lg_sl ([.ref (a h0), .long x0]) ++ List.replicate (3 - (lg_sl ([.ref (a h0), .long x0])).length) Slot.unset).toArray = ls at hl ⊢
  replace hl : lv_has ls 3 [(0, .ref (a h0)), (1, .long x0)] := hl
  unfold fn_X18_weave at hf
  refine de_start hS hP (fun H locs hS hP => ?_)
  refine lv_aload_n hx hb dX18_weave_0 rfl (lv_at hl 0 rfl) ?_
  obtain ⟨g_1, hf⟩ := grd_some hf
  obtain ⟨kg_1, sg_1⟩ := okO_at g_1
  refine va_get (D := (dC, dI)) (ci := 18) (v := .int (z.1 h0 51)) (C := RX18) (T := TX18) (N := 78) hx hb hts iwd_X18_weave_X18 hown hK hP h0 (Wd_ob kg_1 sg_1 (by decide)) rfl 51 (by decide) (hts _ md_X18_weave_1) (fun _ h9 => h9) (fl_at (t := 0) rfl) dX18_weave_1 ?_
  refine lv_bipush (v := 16) hx hb dX18_weave_4 (by decide) ?_
  refine lv_iadd hx hb dX18_weave_6 ?_
  refine lv_sipush (v := 4096) hx hb dX18_weave_7 (by decide) ?_
  refine lv_icmp_le (tgt := 16) hx hb dX18_weave_10 (by decide) (fun c_2 => ?_) (fun c_2 => ?_)
  · skip
    rw [if_pos c_2] at hf
    refine lv_aload_n hx hb dX18_weave_16 rfl (lv_at hl 0 rfl) ?_
    refine lv_dup hx hb dX18_weave_17 rfl ?_
    refine va_get (D := (dC, dI)) (ci := 18) (v := .int (z.1 h0 51)) (C := RX18) (T := TX18) (N := 78) hx hb hts iwd_X18_weave_X18 hown hK hP h0 (Wd_ob kg_1 sg_1 (by decide)) rfl 51 (by decide) (hts _ md_X18_weave_1) (fun _ h9 => h9) (fl_at (t := 0) rfl) dX18_weave_18 ?_
    refine lv_bipush (v := 16) hx hb dX18_weave_21 (by decide) ?_
    refine lv_iadd hx hb dX18_weave_23 ?_
    refine va_put (D := (dC, dI)) (ci := 18) (v := .int ((z.1 h0 51) + 16)) (ty := .int) (C := RX18) (T := TX18) (N := 78) hx hb hts iwd_X18_weave_X18 tyX18 tyX18_ok nmX18 hown hK hP hD hS h0 (Wd_ob kg_1 sg_1 (by decide)) rfl 51 (by decide) (hts _ md_X18_weave_1) (fun _ h9 => h9) rfl (by decide +kernel) rfl rfl (by rw [fl_len]; decide) dX18_weave_24 (fun H_3 locs hP2 hD2 hS2 => ?_)
    rw [Wd_si sg_1 (by decide) rfl] at hP2 hD2
    obtain ⟨z_4, ez_4⟩ : ∃ w, w = si z h0 51 ((z.1 h0 51) + 16) := ⟨_, rfl⟩
    rw [← ez_4] at hP2 hD2
    replace hf := lt_at ez_4 hf
    clear ez_4
    replace hP := hP2
    replace hD := hD2
    replace hS := hS2
    clear hP2 hD2 hS2
    refine lv_aload_n hx hb dX18_weave_27 rfl (lv_at hl 0 rfl) ?_
    refine va_get (D := (dC, dI)) (ci := 18) (v := .int (z_4.1 h0 51)) (C := RX18) (T := TX18) (N := 78) hx hb hts iwd_X18_weave_X18 hown hK hP h0 (Wd_ob kg_1 sg_1 (by decide)) rfl 51 (by decide) (hts _ md_X18_weave_1) (fun _ h9 => h9) (fl_at (t := 0) rfl) dX18_weave_28 ?_
    obtain ⟨h8, h9⟩ := ret_some hf
    rw [h8, h9]
    exact W.iret (v := (z_4.1 h0 51)) hx hb hr (fun t ht hW => ⟨⟨(z_4.1 h0 51), (), rfl, rfl, by rw [ht]; exact hP, va_K.moved hW.alike hK, hD⟩, hS.F ht⟩) hS.2.2 dX18_weave_31
  · skip
    rw [if_neg c_2] at hf
    refine lv_bipush (v := (-3)) hx hb dX18_weave_13 (by decide) ?_
    obtain ⟨h8, h9⟩ := ret_some hf
    rw [h8, h9]
    exact W.iret (v := (-3)) hx hb hr (fun t ht hW => ⟨⟨(-3), (), rfl, rfl, by rw [ht]; exact hP, va_K.moved hW.alike hK, hD⟩, hS.F ht⟩) hS.2.2 dX18_weave_15

theorem md_X18_begin_1 : (.fieldLink RX18 626 "ResourceLedgerModel" "count" "I" : Cond) ∈ wsX18_begin := List.mem_of_getElem? (i := 1) rfl
theorem iwd_X18_begin_X18 : ∀ w ∈ wsX180, w ∈ wsX18_begin := fun _ h => List.mem_cons_of_mem _ (List.mem_append_right _ h)
theorem md_X18_begin_2 : (.fieldLink RX18 628 "ResourceLedgerModel" "done" "I" : Cond) ∈ wsX18_begin := List.mem_of_getElem? (i := 2) rfl
def fn_X18_begin (F : Nat) (sh : Nat → Nat × Nat) (n : Nat) (z : St) (h0 : Nat) : Option (St × Int32) := grd (okO sh n h0 18) (lt_ (z.1 h0 52) (fun v_2 => lt_ (si z h0 52 0) (fun z_4 => lt_ (si z_4 h0 53 0) (fun z_6 => some (z_6, v_2)))))
set_option maxHeartbeats 4000000 in
set_option maxRecDepth 100000 in
theorem de_X18_begin (l : Launch) (dC : Nat → ClassId) (dI : Nat → Nat → Nat) (cy : Nat → ClassId) (a : Nat → Nat) (sh : Nat → Nat × Nat) (n sz : Nat) (F : Nat) (z : St) (h0 : Nat) {z8 : St} {r8 : Int32} (hf : fn_X18_begin F sh n z h0 = some (z8, r8)) : Met l yX18_begin wsX18_begin ({ frames := 0, cells := 0, slots := 0, locals := 0 }) (va_Pc [.ref (a h0)] (fun U => U.heap.size = sz ∧ va_P (dC, dI) vwCl (Wd cy a sh n z) U.heap ∧ va_K (dC, dI) vwCl (TYS cy) U ∧ va_D (fun _ => True) (Wd cy a sh n z) ∧ NK U)) (va_Qi (fun (r9 : Int32) (u : Unit) => r9 = r8) (fun u t => va_P (dC, dI) vwCl (Wd cy a sh n z8) t.heap ∧ va_K (dC, dI) vwCl (TYS cy) t ∧ va_D (va_A (Wd cy a sh n z) sz) (Wd cy a sh n z8)) (va_A (Wd cy a sh n z) sz)) 0 0 (va_A (Wd cy a sh n z) sz) := by
  refine Met.ofW (cc := cX18_begin) (maxL := 2) (ret := (some .int)) (by decide) rfl ?_
  intro p e s m args below meth c s₁ B hml hv
  obtain ⟨rfl, hsz, hP, hK, hD0, hN⟩ := hv
  have hx := B.exec
  have hb := B.bytes
  have hr := B.returns
  have hts := atoms_spec (ws := wsX18_begin) B.pre
  have hown : s.vm.findClass RX18 = some m.cls := findClass_of_methodNamed B.named
  have hlocks := B.notSynchronized
  subst hsz
  have hD := hD0.self (sz := s.heap.size)
  clear hD0
  generalize hAe : va_A (Wd cy a sh n z) s.heap.size = A at hD ⊢
  have hA : ∀ q : Nat, s.heap.size ≤ q → A q := fun q h => by rw [← hAe]; exact Or.inr h
  clear hAe
  have hS : va_S A s.heap s.heap [] := va_S.rf
  have hl := lv_entry ([.ref (a h0)]) (n := 2) (Nat.le_of_ble_eq_true rfl)
  rw [lg_entry_eq]
  generalize (lg_sl ([.ref (a h0)]) ++ List.replicate (2 - (lg_sl ([.ref (a h0)])).length) Slot.unset).toArray = ls at hl ⊢
  replace hl : lv_has ls 2 [(0, .ref (a h0))] := hl
  unfold fn_X18_begin at hf
  refine de_start hS hP (fun H locs hS hP => ?_)
  refine lv_aload_n hx hb dX18_begin_0 rfl (lv_at hl 0 rfl) ?_
  obtain ⟨g_1, hf⟩ := grd_some hf
  obtain ⟨kg_1, sg_1⟩ := okO_at g_1
  refine va_get (D := (dC, dI)) (ci := 18) (v := .int (z.1 h0 52)) (C := RX18) (T := TX18) (N := 78) hx hb hts iwd_X18_begin_X18 hown hK hP h0 (Wd_ob kg_1 sg_1 (by decide)) rfl 52 (by decide) (hts _ md_X18_begin_1) (fun _ h9 => h9) (fl_at (t := 0) rfl) dX18_begin_1 ?_
  refine lv_topi (fun v_2 ev_2 => ?_)
  replace hf := lt_at ev_2 hf
  clear ev_2
  refine lv_istore_n (lv' := [(1, .int v_2), (0, .ref (a h0))]) hx hb dX18_begin_4 rfl hl (by decide) rfl (fun ls hl2 => ?_)
  replace hl := hl2
  clear hl2
  refine lv_aload_n hx hb dX18_begin_5 rfl (lv_at hl 1 rfl) ?_
  refine lv_iconst (v := 0) hx hb dX18_begin_6 (by decide) ?_
  refine va_put (D := (dC, dI)) (ci := 18) (v := .int 0) (ty := .int) (C := RX18) (T := TX18) (N := 78) hx hb hts iwd_X18_begin_X18 tyX18 tyX18_ok nmX18 hown hK hP hD hS h0 (Wd_ob kg_1 sg_1 (by decide)) rfl 52 (by decide) (hts _ md_X18_begin_1) (fun _ h9 => h9) rfl (by decide +kernel) rfl rfl (by rw [fl_len]; decide) dX18_begin_7 (fun H_3 locs hP2 hD2 hS2 => ?_)
  rw [Wd_si sg_1 (by decide) rfl] at hP2 hD2
  obtain ⟨z_4, ez_4⟩ : ∃ w, w = si z h0 52 0 := ⟨_, rfl⟩
  rw [← ez_4] at hP2 hD2
  replace hf := lt_at ez_4 hf
  clear ez_4
  replace hP := hP2
  replace hD := hD2
  replace hS := hS2
  clear hP2 hD2 hS2
  refine lv_aload_n hx hb dX18_begin_10 rfl (lv_at hl 1 rfl) ?_
  refine lv_iconst (v := 0) hx hb dX18_begin_11 (by decide) ?_
  refine va_put (D := (dC, dI)) (ci := 18) (v := .int 0) (ty := .int) (C := RX18) (T := TX18) (N := 78) hx hb hts iwd_X18_begin_X18 tyX18 tyX18_ok nmX18 hown hK hP hD hS h0 (Wd_ob kg_1 sg_1 (by decide)) rfl 53 (by decide) (hts _ md_X18_begin_2) (fun _ h9 => h9) rfl (by decide +kernel) rfl rfl (by rw [fl_len]; decide) dX18_begin_12 (fun H_5 locs hP2 hD2 hS2 => ?_)
  rw [Wd_si sg_1 (by decide) rfl] at hP2 hD2
  obtain ⟨z_6, ez_6⟩ : ∃ w, w = si z_4 h0 53 0 := ⟨_, rfl⟩
  rw [← ez_6] at hP2 hD2
  replace hf := lt_at ez_6 hf
  clear ez_6
  replace hP := hP2
  replace hD := hD2
  replace hS := hS2
  clear hP2 hD2 hS2
  refine lv_iload_n hx hb dX18_begin_15 rfl (lv_at hl 0 rfl) ?_
  obtain ⟨h8, h9⟩ := ret_some hf
  rw [h8, h9]
  exact W.iret (v := v_2) hx hb hr (fun t ht hW => ⟨⟨v_2, (), rfl, rfl, by rw [ht]; exact hP, va_K.moved hW.alike hK, hD⟩, hS.F ht⟩) hS.2.2 dX18_begin_16

theorem md_X18_unweave_1 : (.fieldLink RX18 640 "ResourceLedgerModel" "woven" "I" : Cond) ∈ wsX18_unweave := List.mem_of_getElem? (i := 1) rfl
theorem iwd_X18_unweave_X18 : ∀ w ∈ wsX180, w ∈ wsX18_unweave := fun _ h => List.mem_cons_of_mem _ (List.mem_append_right _ h)
def fn_X18_unweave (F : Nat) (sh : Nat → Nat × Nat) (n : Nat) (z : St) (h0 : Nat) : Option (St × Int32) := grd (okO sh n h0 18) (lt_ (z.1 h0 51) (fun v_2 => lt_ (si z h0 51 0) (fun z_4 => some (z_4, v_2))))
set_option maxHeartbeats 4000000 in
set_option maxRecDepth 100000 in
theorem de_X18_unweave (l : Launch) (dC : Nat → ClassId) (dI : Nat → Nat → Nat) (cy : Nat → ClassId) (a : Nat → Nat) (sh : Nat → Nat × Nat) (n sz : Nat) (F : Nat) (z : St) (h0 : Nat) {z8 : St} {r8 : Int32} (hf : fn_X18_unweave F sh n z h0 = some (z8, r8)) : Met l yX18_unweave wsX18_unweave ({ frames := 0, cells := 0, slots := 0, locals := 0 }) (va_Pc [.ref (a h0)] (fun U => U.heap.size = sz ∧ va_P (dC, dI) vwCl (Wd cy a sh n z) U.heap ∧ va_K (dC, dI) vwCl (TYS cy) U ∧ va_D (fun _ => True) (Wd cy a sh n z) ∧ NK U)) (va_Qi (fun (r9 : Int32) (u : Unit) => r9 = r8) (fun u t => va_P (dC, dI) vwCl (Wd cy a sh n z8) t.heap ∧ va_K (dC, dI) vwCl (TYS cy) t ∧ va_D (va_A (Wd cy a sh n z) sz) (Wd cy a sh n z8)) (va_A (Wd cy a sh n z) sz)) 0 0 (va_A (Wd cy a sh n z) sz) := by
  refine Met.ofW (cc := cX18_unweave) (maxL := 2) (ret := (some .int)) (by decide) rfl ?_
  intro p e s m args below meth c s₁ B hml hv
  obtain ⟨rfl, hsz, hP, hK, hD0, hN⟩ := hv
  have hx := B.exec
  have hb := B.bytes
  have hr := B.returns
  have hts := atoms_spec (ws := wsX18_unweave) B.pre
  have hown : s.vm.findClass RX18 = some m.cls := findClass_of_methodNamed B.named
  have hlocks := B.notSynchronized
  subst hsz
  have hD := hD0.self (sz := s.heap.size)
  clear hD0
  generalize hAe : va_A (Wd cy a sh n z) s.heap.size = A at hD ⊢
  have hA : ∀ q : Nat, s.heap.size ≤ q → A q := fun q h => by rw [← hAe]; exact Or.inr h
  clear hAe
  have hS : va_S A s.heap s.heap [] := va_S.rf
  have hl := lv_entry ([.ref (a h0)]) (n := 2) (Nat.le_of_ble_eq_true rfl)
  rw [lg_entry_eq]
  generalize (lg_sl ([.ref (a h0)]) ++ List.replicate (2 - (lg_sl ([.ref (a h0)])).length) Slot.unset).toArray = ls at hl ⊢
  replace hl : lv_has ls 2 [(0, .ref (a h0))] := hl
  unfold fn_X18_unweave at hf
  refine de_start hS hP (fun H locs hS hP => ?_)
  refine lv_aload_n hx hb dX18_unweave_0 rfl (lv_at hl 0 rfl) ?_
  obtain ⟨g_1, hf⟩ := grd_some hf
  obtain ⟨kg_1, sg_1⟩ := okO_at g_1
  refine va_get (D := (dC, dI)) (ci := 18) (v := .int (z.1 h0 51)) (C := RX18) (T := TX18) (N := 78) hx hb hts iwd_X18_unweave_X18 hown hK hP h0 (Wd_ob kg_1 sg_1 (by decide)) rfl 51 (by decide) (hts _ md_X18_unweave_1) (fun _ h9 => h9) (fl_at (t := 0) rfl) dX18_unweave_1 ?_
  refine lv_topi (fun v_2 ev_2 => ?_)
  replace hf := lt_at ev_2 hf
  clear ev_2
  refine lv_istore_n (lv' := [(1, .int v_2), (0, .ref (a h0))]) hx hb dX18_unweave_4 rfl hl (by decide) rfl (fun ls hl2 => ?_)
  replace hl := hl2
  clear hl2
  refine lv_aload_n hx hb dX18_unweave_5 rfl (lv_at hl 1 rfl) ?_
  refine lv_iconst (v := 0) hx hb dX18_unweave_6 (by decide) ?_
  refine va_put (D := (dC, dI)) (ci := 18) (v := .int 0) (ty := .int) (C := RX18) (T := TX18) (N := 78) hx hb hts iwd_X18_unweave_X18 tyX18 tyX18_ok nmX18 hown hK hP hD hS h0 (Wd_ob kg_1 sg_1 (by decide)) rfl 51 (by decide) (hts _ md_X18_unweave_1) (fun _ h9 => h9) rfl (by decide +kernel) rfl rfl (by rw [fl_len]; decide) dX18_unweave_7 (fun H_3 locs hP2 hD2 hS2 => ?_)
  rw [Wd_si sg_1 (by decide) rfl] at hP2 hD2
  obtain ⟨z_4, ez_4⟩ : ∃ w, w = si z h0 51 0 := ⟨_, rfl⟩
  rw [← ez_4] at hP2 hD2
  replace hf := lt_at ez_4 hf
  clear ez_4
  replace hP := hP2
  replace hD := hD2
  replace hS := hS2
  clear hP2 hD2 hS2
  refine lv_iload_n hx hb dX18_unweave_10 rfl (lv_at hl 0 rfl) ?_
  obtain ⟨h8, h9⟩ := ret_some hf
  rw [h8, h9]
  exact W.iret (v := v_2) hx hb hr (fun t ht hW => ⟨⟨v_2, (), rfl, rfl, by rw [ht]; exact hP, va_K.moved hW.alike hK, hD⟩, hS.F ht⟩) hS.2.2 dX18_unweave_11

theorem md_X4_slipCount_1 : (.fieldLink RX4 71 "ResourceLedger$Machine" "slips" "I" : Cond) ∈ wsX4_slipCount := List.mem_of_getElem? (i := 1) rfl
theorem iwd_X4_slipCount_X4 : ∀ w ∈ wsX40, w ∈ wsX4_slipCount := fun _ h => List.mem_cons_of_mem _ (List.mem_append_left _ (List.mem_append_right _ h))
theorem md_X4_slipCount_2 : (.fieldLink RX4 12 "ResourceLedger$Machine" "heap" "LResourceLedger$Heap;" : Cond) ∈ wsX4_slipCount := List.mem_of_getElem? (i := 2) rfl
theorem md_X4_slipCount_3 : (.fieldLink RX4 75 "ResourceLedger$Heap" "slips" "I" : Cond) ∈ wsX4_slipCount := List.mem_of_getElem? (i := 3) rfl
theorem iwd_X4_slipCount_X1 : ∀ w ∈ wsX10, w ∈ wsX4_slipCount := fun _ h => List.mem_cons_of_mem _ (List.mem_append_right _ h)
def fn_X4_slipCount (F : Nat) (sh : Nat → Nat × Nat) (n : Nat) (z : St) (h0 : Nat) : Option (St × Int32) := grd (okO sh n h0 4) (lnk (z.2.2 h0 1) (fun k_2 => grd (okO sh n k_2 1) (some (z, ((z.1 h0 18) + (z.1 k_2 6))))))
set_option maxHeartbeats 4000000 in
set_option maxRecDepth 100000 in
theorem de_X4_slipCount (l : Launch) (dC : Nat → ClassId) (dI : Nat → Nat → Nat) (cy : Nat → ClassId) (a : Nat → Nat) (sh : Nat → Nat × Nat) (n sz : Nat) (F : Nat) (z : St) (h0 : Nat) {z8 : St} {r8 : Int32} (hf : fn_X4_slipCount F sh n z h0 = some (z8, r8)) : Met l yX4_slipCount wsX4_slipCount ({ frames := 0, cells := 0, slots := 0, locals := 0 }) (va_Pc [.ref (a h0)] (fun U => U.heap.size = sz ∧ va_P (dC, dI) vwCl (Wd cy a sh n z) U.heap ∧ va_K (dC, dI) vwCl (TYS cy) U ∧ va_D (fun _ => True) (Wd cy a sh n z) ∧ NK U)) (va_Qi (fun (r9 : Int32) (u : Unit) => r9 = r8) (fun u t => va_P (dC, dI) vwCl (Wd cy a sh n z8) t.heap ∧ va_K (dC, dI) vwCl (TYS cy) t ∧ va_D (va_A (Wd cy a sh n z) sz) (Wd cy a sh n z8)) (va_A (Wd cy a sh n z) sz)) 0 0 (va_A (Wd cy a sh n z) sz) := by
  refine Met.ofW (cc := cX4_slipCount) (maxL := 1) (ret := (some .int)) (by decide) rfl ?_
  intro p e s m args below meth c s₁ B hml hv
  obtain ⟨rfl, hsz, hP, hK, hD0, hN⟩ := hv
  have hx := B.exec
  have hb := B.bytes
  have hr := B.returns
  have hts := atoms_spec (ws := wsX4_slipCount) B.pre
  have hown : s.vm.findClass RX4 = some m.cls := findClass_of_methodNamed B.named
  have hlocks := B.notSynchronized
  subst hsz
  have hD := hD0.self (sz := s.heap.size)
  clear hD0
  generalize hAe : va_A (Wd cy a sh n z) s.heap.size = A at hD ⊢
  have hA : ∀ q : Nat, s.heap.size ≤ q → A q := fun q h => by rw [← hAe]; exact Or.inr h
  clear hAe
  have hS : va_S A s.heap s.heap [] := va_S.rf
  have hl := lv_entry ([.ref (a h0)]) (n := 1) (Nat.le_of_ble_eq_true rfl)
  rw [lg_entry_eq]
  generalize (lg_sl ([.ref (a h0)]) ++ List.replicate (1 - (lg_sl ([.ref (a h0)])).length) Slot.unset).toArray = ls at hl ⊢
  replace hl : lv_has ls 1 [(0, .ref (a h0))] := hl
  unfold fn_X4_slipCount at hf
  refine de_start hS hP (fun H locs hS hP => ?_)
  refine lv_aload_n hx hb dX4_slipCount_0 rfl (lv_at hl 0 rfl) ?_
  obtain ⟨g_1, hf⟩ := grd_some hf
  obtain ⟨kg_1, sg_1⟩ := okO_at g_1
  refine va_get (D := (dC, dI)) (ci := 4) (v := .int (z.1 h0 18)) (C := RX4) (T := TX4) (N := 19) hx hb hts iwd_X4_slipCount_X4 hown hK hP h0 (Wd_ob kg_1 sg_1 (by decide)) rfl 18 (by decide) (hts _ md_X4_slipCount_1) (fun _ h9 => h9) (fl_at (t := 0) rfl) dX4_slipCount_1 ?_
  refine lv_aload_n hx hb dX4_slipCount_4 rfl (lv_at hl 0 rfl) ?_
  obtain ⟨k_2, ek_2, hf⟩ := lnk_some hf
  refine va_get (D := (dC, dI)) (ci := 4) (v := .ref (a k_2)) (C := RX4) (T := TX4) (N := 19) hx hb hts iwd_X4_slipCount_X4 hown hK hP h0 (Wd_ob kg_1 sg_1 (by decide)) rfl 1 (by decide) (hts _ md_X4_slipCount_2) (fun _ h9 => h9) (fl_q rfl ek_2) dX4_slipCount_5 ?_
  obtain ⟨g_3, hf⟩ := grd_some hf
  obtain ⟨kg_3, sg_3⟩ := okO_at g_3
  refine va_get (D := (dC, dI)) (ci := 1) (v := .int (z.1 k_2 6)) (C := RX1) (T := TX1) (N := 7) hx hb hts iwd_X4_slipCount_X1 hown hK hP k_2 (Wd_ob kg_3 sg_3 (by decide)) rfl 6 (by decide) (hts _ md_X4_slipCount_3) (fun _ h9 => h9) (fl_at (t := 0) rfl) dX4_slipCount_8 ?_
  refine lv_iadd hx hb dX4_slipCount_11 ?_
  obtain ⟨h8, h9⟩ := ret_some hf
  rw [h8, h9]
  exact W.iret (v := ((z.1 h0 18) + (z.1 k_2 6))) hx hb hr (fun t ht hW => ⟨⟨((z.1 h0 18) + (z.1 k_2 6)), (), rfl, rfl, by rw [ht]; exact hP, va_K.moved hW.alike hK, hD⟩, hS.F ht⟩) hS.2.2 dX4_slipCount_12

theorem md_X11_slips_1 : (.fieldLink RX11 55 "ResourceLedger" "machine" "LResourceLedger$Machine;" : Cond) ∈ wsX11_slips := List.mem_of_getElem? (i := 1) rfl
theorem iwd_X11_slips_X11 : ∀ w ∈ wsX110, w ∈ wsX11_slips := fun _ h => List.mem_cons_of_mem _ (List.mem_append_left _ (List.mem_append_left _ (List.mem_append_right _ h)))
def fn_X11_slips (F : Nat) (sh : Nat → Nat × Nat) (n : Nat) (z : St) (h0 : Nat) : Option (St × Int32) := grd (okO sh n h0 11) (lnk (z.2.2 h0 9) (fun k_2 => grd (okO sh n k_2 4) (cal (fn_X4_slipCount F sh n z k_2) (fun z_3 r_4 => some (z_3, r_4)))))
set_option maxHeartbeats 4000000 in
set_option maxRecDepth 100000 in
theorem de_X11_slips (l : Launch) (dC : Nat → ClassId) (dI : Nat → Nat → Nat) (cy : Nat → ClassId) (a : Nat → Nat) (sh : Nat → Nat × Nat) (n sz : Nat) (F : Nat) (z : St) (h0 : Nat) {z8 : St} {r8 : Int32} (hf : fn_X11_slips F sh n z h0 = some (z8, r8)) : Met l yX11_slips wsX11_slips ({ frames := 1, cells := 0, slots := 0, locals := 20 }) (va_Pc [.ref (a h0)] (fun U => U.heap.size = sz ∧ va_P (dC, dI) vwCl (Wd cy a sh n z) U.heap ∧ va_K (dC, dI) vwCl (TYS cy) U ∧ va_D (fun _ => True) (Wd cy a sh n z) ∧ NK U)) (va_Qi (fun (r9 : Int32) (u : Unit) => r9 = r8) (fun u t => va_P (dC, dI) vwCl (Wd cy a sh n z8) t.heap ∧ va_K (dC, dI) vwCl (TYS cy) t ∧ va_D (va_A (Wd cy a sh n z) sz) (Wd cy a sh n z8)) (va_A (Wd cy a sh n z) sz)) 0 0 (va_A (Wd cy a sh n z) sz) := by
  refine Met.ofW (cc := cX11_slips) (maxL := 1) (ret := (some .int)) (by decide) rfl ?_
  intro p e s m args below meth c s₁ B hml hv
  obtain ⟨rfl, hsz, hP, hK, hD0, hN⟩ := hv
  have hx := B.exec
  have hb := B.bytes
  have hr := B.returns
  have hts := atoms_spec (ws := wsX11_slips) B.pre
  have hown : s.vm.findClass RX11 = some m.cls := findClass_of_methodNamed B.named
  have hlocks := B.notSynchronized
  subst hsz
  have hD := hD0.self (sz := s.heap.size)
  clear hD0
  generalize hAe : va_A (Wd cy a sh n z) s.heap.size = A at hD ⊢
  have hA : ∀ q : Nat, s.heap.size ≤ q → A q := fun q h => by rw [← hAe]; exact Or.inr h
  clear hAe
  have hS : va_S A s.heap s.heap [] := va_S.rf
  have hl := lv_entry ([.ref (a h0)]) (n := 1) (Nat.le_of_ble_eq_true rfl)
  rw [lg_entry_eq]
  generalize (lg_sl ([.ref (a h0)]) ++ List.replicate (1 - (lg_sl ([.ref (a h0)])).length) Slot.unset).toArray = ls at hl ⊢
  replace hl : lv_has ls 1 [(0, .ref (a h0))] := hl
  unfold fn_X11_slips at hf
  refine de_start hS hP (fun H locs hS hP => ?_)
  refine lv_aload_n hx hb dX11_slips_0 rfl (lv_at hl 0 rfl) ?_
  obtain ⟨g_1, hf⟩ := grd_some hf
  obtain ⟨kg_1, sg_1⟩ := okO_at g_1
  obtain ⟨k_2, ek_2, hf⟩ := lnk_some hf
  refine va_get (D := (dC, dI)) (ci := 11) (v := .ref (a k_2)) (C := RX11) (T := TX11) (N := 13) hx hb hts iwd_X11_slips_X11 hown hK hP h0 (Wd_ob kg_1 sg_1 (by decide)) rfl 9 (by decide) (hts _ md_X11_slips_1) (fun _ h9 => h9) (fl_q rfl ek_2) dX11_slips_1 ?_
  obtain ⟨g_5, hf⟩ := grd_some hf
  obtain ⟨kg_5, sg_5⟩ := okO_at g_5
  obtain ⟨z_3, r_4, hfc, hf⟩ := cal_some hf
  have hFc := de_free hD hS hA
  refine va_calli (va_runV (As := []) (rest := []) ⟨hx, hb, hml, hown, hts⟩ (de_X4_slipCount l dC dI cy a sh n H.size F z k_2 hfc) (cwV 0 hts gX11_slips_X4_slipCount rfl rfl rfl (by decide +kernel) ⟨Nat.le_of_ble_eq_true rfl, Nat.le_of_ble_eq_true rfl⟩) ⟨fun a U g mk q => by obtain ⟨q0, q1, qP, qK, qD, qN⟩ := q; exact ⟨q0, q1, qP, va_K.moved (u := U) (U := U.calling g mk a) (Vm.Alike.refl U.vm) qK, qD, qN.same rfl⟩, va_recv hK hP (ci := 4) (q0 := k_2) rfl (Wd_ob kg_5 sg_5 (by decide)), fun U hU hW => ⟨rfl, by rw [hU], by rw [hU]; exact hP, va_K.moved hW.alike hK, hD.weaken (fun _ _ _ _ => trivial), hN.warm hW⟩⟩ rfl rfl hl.1 rfl (lv_room (Nat.le_of_ble_eq_true rfl)) dX11_slips_4 ⟨Nat.le_of_ble_eq_true rfl, Nat.le_of_ble_eq_true rfl⟩) hS (fun q _ h => hFc q h) hFc (fun rr u t H_6 locs ht hvm hw hB hz1 hk1 hS2 => ?_)
  rw [hw]
  clear hw
  obtain ⟨hP1, -, hD1⟩ := hB
  rw [ht] at hP1
  replace hD := hD1.weaken (fun _ _ _ h => hFc _ h)
  replace hP := hP1
  replace hS := hS2
  clear hP1 hD1 hS2 hFc hfc hz1 hk1 hvm ht
  obtain ⟨h8, h9⟩ := ret_some hf
  rw [h8, h9]
  exact W.iret (v := r_4) hx hb hr (fun t ht hW => ⟨⟨r_4, (), rfl, rfl, by rw [ht]; exact hP, va_K.moved hW.alike hK, hD⟩, hS.F ht⟩) hS.2.2 dX11_slips_7

theorem md_X18_slips_1 : (.fieldLink RX18 322 "ResourceLedgerModel" "slips" "I" : Cond) ∈ wsX18_slips := List.mem_of_getElem? (i := 1) rfl
theorem iwd_X18_slips_X18 : ∀ w ∈ wsX180, w ∈ wsX18_slips := fun _ h => List.mem_cons_of_mem _ (List.mem_append_right _ h)
def fn_X18_slips (F : Nat) (sh : Nat → Nat × Nat) (n : Nat) (z : St) (h0 : Nat) : Option (St × Int32) := grd (okO sh n h0 18) (some (z, (z.1 h0 22)))
set_option maxHeartbeats 4000000 in
set_option maxRecDepth 100000 in
theorem de_X18_slips (l : Launch) (dC : Nat → ClassId) (dI : Nat → Nat → Nat) (cy : Nat → ClassId) (a : Nat → Nat) (sh : Nat → Nat × Nat) (n sz : Nat) (F : Nat) (z : St) (h0 : Nat) {z8 : St} {r8 : Int32} (hf : fn_X18_slips F sh n z h0 = some (z8, r8)) : Met l yX18_slips wsX18_slips ({ frames := 0, cells := 0, slots := 0, locals := 0 }) (va_Pc [.ref (a h0)] (fun U => U.heap.size = sz ∧ va_P (dC, dI) vwCl (Wd cy a sh n z) U.heap ∧ va_K (dC, dI) vwCl (TYS cy) U ∧ va_D (fun _ => True) (Wd cy a sh n z) ∧ NK U)) (va_Qi (fun (r9 : Int32) (u : Unit) => r9 = r8) (fun u t => va_P (dC, dI) vwCl (Wd cy a sh n z8) t.heap ∧ va_K (dC, dI) vwCl (TYS cy) t ∧ va_D (va_A (Wd cy a sh n z) sz) (Wd cy a sh n z8)) (va_A (Wd cy a sh n z) sz)) 0 0 (va_A (Wd cy a sh n z) sz) := by
  refine Met.ofW (cc := cX18_slips) (maxL := 1) (ret := (some .int)) (by decide) rfl ?_
  intro p e s m args below meth c s₁ B hml hv
  obtain ⟨rfl, hsz, hP, hK, hD0, hN⟩ := hv
  have hx := B.exec
  have hb := B.bytes
  have hr := B.returns
  have hts := atoms_spec (ws := wsX18_slips) B.pre
  have hown : s.vm.findClass RX18 = some m.cls := findClass_of_methodNamed B.named
  have hlocks := B.notSynchronized
  subst hsz
  have hD := hD0.self (sz := s.heap.size)
  clear hD0
  generalize hAe : va_A (Wd cy a sh n z) s.heap.size = A at hD ⊢
  have hA : ∀ q : Nat, s.heap.size ≤ q → A q := fun q h => by rw [← hAe]; exact Or.inr h
  clear hAe
  have hS : va_S A s.heap s.heap [] := va_S.rf
  have hl := lv_entry ([.ref (a h0)]) (n := 1) (Nat.le_of_ble_eq_true rfl)
  rw [lg_entry_eq]
  generalize (lg_sl ([.ref (a h0)]) ++ List.replicate (1 - (lg_sl ([.ref (a h0)])).length) Slot.unset).toArray = ls at hl ⊢
  replace hl : lv_has ls 1 [(0, .ref (a h0))] := hl
  unfold fn_X18_slips at hf
  refine de_start hS hP (fun H locs hS hP => ?_)
  refine lv_aload_n hx hb dX18_slips_0 rfl (lv_at hl 0 rfl) ?_
  obtain ⟨g_1, hf⟩ := grd_some hf
  obtain ⟨kg_1, sg_1⟩ := okO_at g_1
  refine va_get (D := (dC, dI)) (ci := 18) (v := .int (z.1 h0 22)) (C := RX18) (T := TX18) (N := 78) hx hb hts iwd_X18_slips_X18 hown hK hP h0 (Wd_ob kg_1 sg_1 (by decide)) rfl 22 (by decide) (hts _ md_X18_slips_1) (fun _ h9 => h9) (fl_at (t := 0) rfl) dX18_slips_1 ?_
  obtain ⟨h8, h9⟩ := ret_some hf
  rw [h8, h9]
  exact W.iret (v := (z.1 h0 22)) hx hb hr (fun t ht hW => ⟨⟨(z.1 h0 22), (), rfl, rfl, by rw [ht]; exact hP, va_K.moved hW.alike hK, hD⟩, hS.F ht⟩) hS.2.2 dX18_slips_4

theorem md_X18_byteOf_1 : (.fieldLink RX18 684 "ResourceLedgerModel" "shownSize" "I" : Cond) ∈ wsX18_byteOf := List.mem_of_getElem? (i := 1) rfl
theorem iwd_X18_byteOf_X18 : ∀ w ∈ wsX180, w ∈ wsX18_byteOf := fun _ h => List.mem_cons_of_mem _ (List.mem_append_right _ h)
theorem md_X18_byteOf_2 : (.fieldLink RX18 599 "ResourceLedgerModel" "shown" "[B" : Cond) ∈ wsX18_byteOf := List.mem_of_getElem? (i := 2) rfl
def fn_X18_byteOf (F : Nat) (sh : Nat → Nat × Nat) (n : Nat) (z : St) (h0 : Nat) (x0 : Int32) : Option (St × Int32) := if (x0 : Int32) < 0 then some (z, (-1)) else grd (okO sh n h0 18) (if ((z.1 h0 75) : Int32) ≤ x0 then some (z, (-1)) else lnk (z.2.2 h0 74) (fun k_4 => grd (okA sh n k_4 100 x0) (some (z, ((z.1 k_4 x0.toNatClampNeg) &&& 255)))))
set_option maxHeartbeats 4000000 in
set_option maxRecDepth 100000 in
theorem de_X18_byteOf (l : Launch) (dC : Nat → ClassId) (dI : Nat → Nat → Nat) (cy : Nat → ClassId) (a : Nat → Nat) (sh : Nat → Nat × Nat) (n sz : Nat) (F : Nat) (z : St) (h0 : Nat) (x0 : Int32) {z8 : St} {r8 : Int32} (hf : fn_X18_byteOf F sh n z h0 x0 = some (z8, r8)) : Met l yX18_byteOf wsX18_byteOf ({ frames := 0, cells := 0, slots := 0, locals := 0 }) (va_Pc [.ref (a h0), .int x0] (fun U => U.heap.size = sz ∧ va_P (dC, dI) vwCl (Wd cy a sh n z) U.heap ∧ va_K (dC, dI) vwCl (TYS cy) U ∧ va_D (fun _ => True) (Wd cy a sh n z) ∧ NK U)) (va_Qi (fun (r9 : Int32) (u : Unit) => r9 = r8) (fun u t => va_P (dC, dI) vwCl (Wd cy a sh n z8) t.heap ∧ va_K (dC, dI) vwCl (TYS cy) t ∧ va_D (va_A (Wd cy a sh n z) sz) (Wd cy a sh n z8)) (va_A (Wd cy a sh n z) sz)) 0 0 (va_A (Wd cy a sh n z) sz) := by
  refine Met.ofW (cc := cX18_byteOf) (maxL := 2) (ret := (some .int)) (by decide) rfl ?_
  intro p e s m args below meth c s₁ B hml hv
  obtain ⟨rfl, hsz, hP, hK, hD0, hN⟩ := hv
  have hx := B.exec
  have hb := B.bytes
  have hr := B.returns
  have hts := atoms_spec (ws := wsX18_byteOf) B.pre
  have hown : s.vm.findClass RX18 = some m.cls := findClass_of_methodNamed B.named
  have hlocks := B.notSynchronized
  subst hsz
  have hD := hD0.self (sz := s.heap.size)
  clear hD0
  generalize hAe : va_A (Wd cy a sh n z) s.heap.size = A at hD ⊢
  have hA : ∀ q : Nat, s.heap.size ≤ q → A q := fun q h => by rw [← hAe]; exact Or.inr h
  clear hAe
  have hS : va_S A s.heap s.heap [] := va_S.rf
  have hl := lv_entry ([.ref (a h0), .int x0]) (n := 2) (Nat.le_of_ble_eq_true rfl)
  rw [lg_entry_eq]
  generalize (lg_sl ([.ref (a h0), .int x0]) ++ List.replicate (2 - (lg_sl ([.ref (a h0), .int x0])).length) Slot.unset).toArray = ls at hl ⊢
  replace hl : lv_has ls 2 [(0, .ref (a h0)), (1, .int x0)] := hl
  unfold fn_X18_byteOf at hf
  refine de_start hS hP (fun H locs hS hP => ?_)
  refine lv_iload_n hx hb dX18_byteOf_0 rfl (lv_at hl 1 rfl) ?_
  refine lv_if_lt (tgt := 25) hx hb dX18_byteOf_1 (by decide) (fun c_1 => ?_) (fun c_1 => ?_)
  · skip
    rw [if_pos c_1] at hf
    refine lv_iconst (v := (-1)) hx hb dX18_byteOf_25 (by decide) ?_
    obtain ⟨h8, h9⟩ := ret_some hf
    rw [h8, h9]
    exact W.iret (v := (-1)) hx hb hr (fun t ht hW => ⟨⟨(-1), (), rfl, rfl, by rw [ht]; exact hP, va_K.moved hW.alike hK, hD⟩, hS.F ht⟩) hS.2.2 dX18_byteOf_26
  · skip
    rw [if_neg c_1] at hf
    refine lv_iload_n hx hb dX18_byteOf_4 rfl (lv_at hl 1 rfl) ?_
    refine lv_aload_n hx hb dX18_byteOf_5 rfl (lv_at hl 0 rfl) ?_
    obtain ⟨g_2, hf⟩ := grd_some hf
    obtain ⟨kg_2, sg_2⟩ := okO_at g_2
    refine va_get (D := (dC, dI)) (ci := 18) (v := .int (z.1 h0 75)) (C := RX18) (T := TX18) (N := 78) hx hb hts iwd_X18_byteOf_X18 hown hK hP h0 (Wd_ob kg_2 sg_2 (by decide)) rfl 75 (by decide) (hts _ md_X18_byteOf_1) (fun _ h9 => h9) (fl_at (t := 0) rfl) dX18_byteOf_6 ?_
    refine lv_icmp_ge (tgt := 25) hx hb dX18_byteOf_9 (by decide) (fun c_3 => ?_) (fun c_3 => ?_)
    · skip
      rw [if_pos c_3] at hf
      refine lv_iconst (v := (-1)) hx hb dX18_byteOf_25 (by decide) ?_
      obtain ⟨h8, h9⟩ := ret_some hf
      rw [h8, h9]
      exact W.iret (v := (-1)) hx hb hr (fun t ht hW => ⟨⟨(-1), (), rfl, rfl, by rw [ht]; exact hP, va_K.moved hW.alike hK, hD⟩, hS.F ht⟩) hS.2.2 dX18_byteOf_26
    · skip
      rw [if_neg c_3] at hf
      refine lv_aload_n hx hb dX18_byteOf_12 rfl (lv_at hl 0 rfl) ?_
      obtain ⟨k_4, ek_4, hf⟩ := lnk_some hf
      refine va_get (D := (dC, dI)) (ci := 18) (v := .ref (a k_4)) (C := RX18) (T := TX18) (N := 78) hx hb hts iwd_X18_byteOf_X18 hown hK hP h0 (Wd_ob kg_2 sg_2 (by decide)) rfl 74 (by decide) (hts _ md_X18_byteOf_2) (fun _ h9 => h9) (fl_q rfl ek_4) dX18_byteOf_13 ?_
      refine lv_iload_n hx hb dX18_byteOf_16 rfl (lv_at hl 1 rfl) ?_
      obtain ⟨g_5, hf⟩ := grd_some hf
      obtain ⟨kg_5, sg_5, ig_5⟩ := okA_at g_5
      refine va_bald hx hb hK hP k_4 0 (Wd_ab kg_5 sg_5) rfl ig_5 dX18_byteOf_17 ?_
      refine lv_sipush (v := 255) hx hb dX18_byteOf_18 (by decide) ?_
      refine lv_iand hx hb dX18_byteOf_21 ?_
      refine lv_goto (tgt := 26) hx hb dX18_byteOf_22 (by decide) ?_
      obtain ⟨h8, h9⟩ := ret_some hf
      rw [h8, h9]
      exact W.iret (v := ((z.1 k_4 x0.toNatClampNeg) &&& 255)) hx hb hr (fun t ht hW => ⟨⟨((z.1 k_4 x0.toNatClampNeg) &&& 255), (), rfl, rfl, by rw [ht]; exact hP, va_K.moved hW.alike hK, hD⟩, hS.F ht⟩) hS.2.2 dX18_byteOf_26

theorem md_X11_byteOf_1 : (.fieldLink RX11 274 "ResourceLedger" "askedLength" "I" : Cond) ∈ wsX11_byteOf := List.mem_of_getElem? (i := 1) rfl
theorem iwd_X11_byteOf_X11 : ∀ w ∈ wsX110, w ∈ wsX11_byteOf := fun _ h => List.mem_cons_of_mem _ (List.mem_append_right _ h)
theorem md_X11_byteOf_2 : (.fieldLink RX11 47 "ResourceLedger" "asked" "[B" : Cond) ∈ wsX11_byteOf := List.mem_of_getElem? (i := 2) rfl
def fn_X11_byteOf (F : Nat) (sh : Nat → Nat × Nat) (n : Nat) (z : St) (h0 : Nat) (x0 : Int32) : Option (St × Int32) := if (x0 : Int32) < 0 then some (z, (-1)) else grd (okO sh n h0 11) (if (x0 : Int32) < (z.1 h0 12) then lnk (z.2.2 h0 11) (fun k_4 => grd (okA sh n k_4 100 x0) (some (z, ((z.1 k_4 x0.toNatClampNeg) &&& 255)))) else some (z, (-1)))
set_option maxHeartbeats 4000000 in
set_option maxRecDepth 100000 in
theorem de_X11_byteOf (l : Launch) (dC : Nat → ClassId) (dI : Nat → Nat → Nat) (cy : Nat → ClassId) (a : Nat → Nat) (sh : Nat → Nat × Nat) (n sz : Nat) (F : Nat) (z : St) (h0 : Nat) (x0 : Int32) {z8 : St} {r8 : Int32} (hf : fn_X11_byteOf F sh n z h0 x0 = some (z8, r8)) : Met l yX11_byteOf wsX11_byteOf ({ frames := 0, cells := 0, slots := 0, locals := 0 }) (va_Pc [.ref (a h0), .int x0] (fun U => U.heap.size = sz ∧ va_P (dC, dI) vwCl (Wd cy a sh n z) U.heap ∧ va_K (dC, dI) vwCl (TYS cy) U ∧ va_D (fun _ => True) (Wd cy a sh n z) ∧ NK U)) (va_Qi (fun (r9 : Int32) (u : Unit) => r9 = r8) (fun u t => va_P (dC, dI) vwCl (Wd cy a sh n z8) t.heap ∧ va_K (dC, dI) vwCl (TYS cy) t ∧ va_D (va_A (Wd cy a sh n z) sz) (Wd cy a sh n z8)) (va_A (Wd cy a sh n z) sz)) 0 0 (va_A (Wd cy a sh n z) sz) := by
  refine Met.ofW (cc := cX11_byteOf) (maxL := 2) (ret := (some .int)) (by decide) rfl ?_
  intro p e s m args below meth c s₁ B hml hv
  obtain ⟨rfl, hsz, hP, hK, hD0, hN⟩ := hv
  have hx := B.exec
  have hb := B.bytes
  have hr := B.returns
  have hts := atoms_spec (ws := wsX11_byteOf) B.pre
  have hown : s.vm.findClass RX11 = some m.cls := findClass_of_methodNamed B.named
  have hlocks := B.notSynchronized
  subst hsz
  have hD := hD0.self (sz := s.heap.size)
  clear hD0
  generalize hAe : va_A (Wd cy a sh n z) s.heap.size = A at hD ⊢
  have hA : ∀ q : Nat, s.heap.size ≤ q → A q := fun q h => by rw [← hAe]; exact Or.inr h
  clear hAe
  have hS : va_S A s.heap s.heap [] := va_S.rf
  have hl := lv_entry ([.ref (a h0), .int x0]) (n := 2) (Nat.le_of_ble_eq_true rfl)
  rw [lg_entry_eq]
  generalize (lg_sl ([.ref (a h0), .int x0]) ++ List.replicate (2 - (lg_sl ([.ref (a h0), .int x0])).length) Slot.unset).toArray = ls at hl ⊢
  replace hl : lv_has ls 2 [(0, .ref (a h0)), (1, .int x0)] := hl
  unfold fn_X11_byteOf at hf
  refine de_start hS hP (fun H locs hS hP => ?_)
  refine lv_iload_n hx hb dX11_byteOf_0 rfl (lv_at hl 1 rfl) ?_
  refine lv_if_lt (tgt := 12) hx hb dX11_byteOf_1 (by decide) (fun c_1 => ?_) (fun c_1 => ?_)
  · skip
    rw [if_pos c_1] at hf
    refine lv_iconst (v := (-1)) hx hb dX11_byteOf_12 (by decide) ?_
    refine lv_goto (tgt := 26) hx hb dX11_byteOf_13 (by decide) ?_
    obtain ⟨h8, h9⟩ := ret_some hf
    rw [h8, h9]
    exact W.iret (v := (-1)) hx hb hr (fun t ht hW => ⟨⟨(-1), (), rfl, rfl, by rw [ht]; exact hP, va_K.moved hW.alike hK, hD⟩, hS.F ht⟩) hS.2.2 dX11_byteOf_26
  · skip
    rw [if_neg c_1] at hf
    refine lv_iload_n hx hb dX11_byteOf_4 rfl (lv_at hl 1 rfl) ?_
    refine lv_aload_n hx hb dX11_byteOf_5 rfl (lv_at hl 0 rfl) ?_
    obtain ⟨g_2, hf⟩ := grd_some hf
    obtain ⟨kg_2, sg_2⟩ := okO_at g_2
    refine va_get (D := (dC, dI)) (ci := 11) (v := .int (z.1 h0 12)) (C := RX11) (T := TX11) (N := 13) hx hb hts iwd_X11_byteOf_X11 hown hK hP h0 (Wd_ob kg_2 sg_2 (by decide)) rfl 12 (by decide) (hts _ md_X11_byteOf_1) (fun _ h9 => h9) (fl_at (t := 0) rfl) dX11_byteOf_6 ?_
    refine lv_icmp_lt (tgt := 16) hx hb dX11_byteOf_9 (by decide) (fun c_3 => ?_) (fun c_3 => ?_)
    · skip
      rw [if_pos c_3] at hf
      refine lv_aload_n hx hb dX11_byteOf_16 rfl (lv_at hl 0 rfl) ?_
      obtain ⟨k_4, ek_4, hf⟩ := lnk_some hf
      refine va_get (D := (dC, dI)) (ci := 11) (v := .ref (a k_4)) (C := RX11) (T := TX11) (N := 13) hx hb hts iwd_X11_byteOf_X11 hown hK hP h0 (Wd_ob kg_2 sg_2 (by decide)) rfl 11 (by decide) (hts _ md_X11_byteOf_2) (fun _ h9 => h9) (fl_q rfl ek_4) dX11_byteOf_17 ?_
      refine lv_iload_n hx hb dX11_byteOf_20 rfl (lv_at hl 1 rfl) ?_
      obtain ⟨g_5, hf⟩ := grd_some hf
      obtain ⟨kg_5, sg_5, ig_5⟩ := okA_at g_5
      refine va_bald hx hb hK hP k_4 0 (Wd_ab kg_5 sg_5) rfl ig_5 dX11_byteOf_21 ?_
      refine lv_sipush (v := 255) hx hb dX11_byteOf_22 (by decide) ?_
      refine lv_iand hx hb dX11_byteOf_25 ?_
      obtain ⟨h8, h9⟩ := ret_some hf
      rw [h8, h9]
      exact W.iret (v := ((z.1 k_4 x0.toNatClampNeg) &&& 255)) hx hb hr (fun t ht hW => ⟨⟨((z.1 k_4 x0.toNatClampNeg) &&& 255), (), rfl, rfl, by rw [ht]; exact hP, va_K.moved hW.alike hK, hD⟩, hS.F ht⟩) hS.2.2 dX11_byteOf_26
    · skip
      rw [if_neg c_3] at hf
      refine lv_iconst (v := (-1)) hx hb dX11_byteOf_12 (by decide) ?_
      refine lv_goto (tgt := 26) hx hb dX11_byteOf_13 (by decide) ?_
      obtain ⟨h8, h9⟩ := ret_some hf
      rw [h8, h9]
      exact W.iret (v := (-1)) hx hb hr (fun t ht hW => ⟨⟨(-1), (), rfl, rfl, by rw [ht]; exact hP, va_K.moved hW.alike hK, hD⟩, hS.F ht⟩) hS.2.2 dX11_byteOf_26

theorem md_X7_findAccount_1 : (.fieldLink RX7 51 "ResourceLedger$State" "accountCount" "I" : Cond) ∈ wsX7_findAccount := List.mem_of_getElem? (i := 1) rfl
theorem iwd_X7_findAccount_X7 : ∀ w ∈ wsX70, w ∈ wsX7_findAccount := fun _ h => List.mem_cons_of_mem _ (List.mem_append_right _ h)
theorem md_X7_findAccount_2 : (.fieldLink RX7 9 "ResourceLedger$State" "accountAddress" "[J" : Cond) ∈ wsX7_findAccount := List.mem_of_getElem? (i := 2) rfl
def fn_X7_findAccount_L2 (F : Nat) (sh : Nat → Nat × Nat) (n : Nat) (h0 : Nat) (x0 : Int64) : Nat → St → Int32 → Option (St × Int32)
  | 0, _, _ => none
  | f_3 + 1, z_2, p_1 => grd (okO sh n h0 7) (if ((z_2.1 h0 3) : Int32) ≤ p_1 then some (z_2, (-1)) else lnk (z_2.2.2 h0 0) (fun k_6 => grd (okA sh n k_6 102 p_1) (if ((z_2.2.1 k_6 p_1.toNatClampNeg) : Int64) = x0 then some (z_2, p_1) else fn_X7_findAccount_L2 F sh n h0 x0 f_3 z_2 (p_1 + 1))))
theorem fn_X7_findAccount_L2_s {F : Nat} {sh : Nat → Nat × Nat} {n : Nat} {h0 : Nat} {x0 : Int64} {f_3 : Nat} {z_2 : St} {p_1 : Int32} {y : St × Int32} (h : fn_X7_findAccount_L2 F sh n h0 x0 (f_3 + 1) z_2 p_1 = some y) : (grd (okO sh n h0 7) (if ((z_2.1 h0 3) : Int32) ≤ p_1 then some (z_2, (-1)) else lnk (z_2.2.2 h0 0) (fun k_6 => grd (okA sh n k_6 102 p_1) (if ((z_2.2.1 k_6 p_1.toNatClampNeg) : Int64) = x0 then some (z_2, p_1) else fn_X7_findAccount_L2 F sh n h0 x0 f_3 z_2 (p_1 + 1))))) = some y := h
def fn_X7_findAccount (F : Nat) (sh : Nat → Nat × Nat) (n : Nat) (z : St) (h0 : Nat) (x0 : Int64) : Option (St × Int32) := fn_X7_findAccount_L2 F sh n h0 x0 F z 0
set_option maxHeartbeats 4000000 in
set_option maxRecDepth 100000 in
theorem de_X7_findAccount (l : Launch) (dC : Nat → ClassId) (dI : Nat → Nat → Nat) (cy : Nat → ClassId) (a : Nat → Nat) (sh : Nat → Nat × Nat) (n sz : Nat) (F : Nat) (z : St) (h0 : Nat) (x0 : Int64) {z8 : St} {r8 : Int32} (hf : fn_X7_findAccount F sh n z h0 x0 = some (z8, r8)) : Met l yX7_findAccount wsX7_findAccount ({ frames := 0, cells := 0, slots := 0, locals := 0 }) (va_Pc [.ref (a h0), .long x0] (fun U => U.heap.size = sz ∧ va_P (dC, dI) vwCl (Wd cy a sh n z) U.heap ∧ va_K (dC, dI) vwCl (TYS cy) U ∧ va_D (fun _ => True) (Wd cy a sh n z) ∧ NK U)) (va_Qi (fun (r9 : Int32) (u : Unit) => r9 = r8) (fun u t => va_P (dC, dI) vwCl (Wd cy a sh n z8) t.heap ∧ va_K (dC, dI) vwCl (TYS cy) t ∧ va_D (va_A (Wd cy a sh n z) sz) (Wd cy a sh n z8)) (va_A (Wd cy a sh n z) sz)) 0 0 (va_A (Wd cy a sh n z) sz) := by
  refine Met.ofW (cc := cX7_findAccount) (maxL := 4) (ret := (some .int)) (by decide) rfl ?_
  intro p e s m args below meth c s₁ B hml hv
  obtain ⟨rfl, hsz, hP, hK, hD0, hN⟩ := hv
  have hx := B.exec
  have hb := B.bytes
  have hr := B.returns
  have hts := atoms_spec (ws := wsX7_findAccount) B.pre
  have hown : s.vm.findClass RX7 = some m.cls := findClass_of_methodNamed B.named
  have hlocks := B.notSynchronized
  subst hsz
  have hD := hD0.self (sz := s.heap.size)
  clear hD0
  generalize hAe : va_A (Wd cy a sh n z) s.heap.size = A at hD ⊢
  have hA : ∀ q : Nat, s.heap.size ≤ q → A q := fun q h => by rw [← hAe]; exact Or.inr h
  clear hAe
  have hS : va_S A s.heap s.heap [] := va_S.rf
  have hl := lv_entry ([.ref (a h0), .long x0]) (n := 4) (Nat.le_of_ble_eq_true rfl)
  rw [lg_entry_eq]
  generalize (lg_sl ([.ref (a h0), .long x0]) ++ List.replicate (4 - (lg_sl ([.ref (a h0), .long x0])).length) Slot.unset).toArray = ls at hl ⊢
  replace hl : lv_has ls 4 [(0, .ref (a h0)), (1, .long x0)] := hl
  unfold fn_X7_findAccount at hf
  refine de_start hS hP (fun H locs hS hP => ?_)
  refine lv_iconst (v := 0) hx hb dX7_findAccount_0 (by decide) ?_
  refine lv_istore_n (lv' := [(3, .int 0), (0, .ref (a h0)), (1, .long x0)]) hx hb dX7_findAccount_1 rfl hl (by decide) rfl (fun ls hl2 => ?_)
  replace hl := hl2
  clear hl2
  have hl0 : lv_has ls 4 [(3, .int 0), (0, .ref (a h0)), (1, .long x0)] := lv_sub hl [0, 1, 2] rfl
  refine de_loop (h := 2) (fun (x : St × Int32) ls H locs => lv_has ls 4 [(3, .int x.2), (0, .ref (a h0)), (1, .long x0)] ∧ va_P (dC, dI) vwCl (Wd cy a sh n x.1) H ∧ va_D A (Wd cy a sh n x.1) ∧ va_S A s.heap H locs) (fun f x => fn_X7_findAccount_L2 F sh n h0 x0 f x.1 x.2) (z8, r8) ?_ (fun _ => rfl) F (z, 0) ls H locs ⟨hl0, hP, hD, hS⟩ hf
  intro f_3 x ls H locs ih2 hI hf
  obtain ⟨z_2, p_1⟩ := x
  obtain ⟨hl2, hP2, hD2, hS2⟩ := hI
  replace hl : lv_has ls 4 [(3, .int p_1), (0, .ref (a h0)), (1, .long x0)] := hl2
  replace hP := hP2
  replace hD := hD2
  replace hS := hS2
  clear hl2 hP2 hD2 hS2 hl0
  replace hf := fn_X7_findAccount_L2_s hf
  refine lv_iload_n hx hb dX7_findAccount_2 rfl (lv_at hl 0 rfl) ?_
  refine lv_aload_n hx hb dX7_findAccount_3 rfl (lv_at hl 1 rfl) ?_
  obtain ⟨g_4, hf⟩ := grd_some hf
  obtain ⟨kg_4, sg_4⟩ := okO_at g_4
  refine va_get (D := (dC, dI)) (ci := 7) (v := .int (z_2.1 h0 3)) (C := RX7) (T := TX7) (N := 16) hx hb hts iwd_X7_findAccount_X7 hown hK hP h0 (Wd_ob kg_4 sg_4 (by decide)) rfl 3 (by decide) (hts _ md_X7_findAccount_1) (fun _ h9 => h9) (fl_at (t := 0) rfl) dX7_findAccount_4 ?_
  refine lv_icmp_ge (tgt := 29) hx hb dX7_findAccount_7 (by decide) (fun c_5 => ?_) (fun c_5 => ?_)
  · skip
    rw [if_pos c_5] at hf
    refine lv_iconst (v := (-1)) hx hb dX7_findAccount_29 (by decide) ?_
    obtain ⟨h8, h9⟩ := ret_some hf
    rw [h8, h9]
    exact W.iret (v := (-1)) hx hb hr (fun t ht hW => ⟨⟨(-1), (), rfl, rfl, by rw [ht]; exact hP, va_K.moved hW.alike hK, hD⟩, hS.F ht⟩) hS.2.2 dX7_findAccount_30
  · skip
    rw [if_neg c_5] at hf
    refine lv_aload_n hx hb dX7_findAccount_10 rfl (lv_at hl 1 rfl) ?_
    obtain ⟨k_6, ek_6, hf⟩ := lnk_some hf
    refine va_get (D := (dC, dI)) (ci := 7) (v := .ref (a k_6)) (C := RX7) (T := TX7) (N := 16) hx hb hts iwd_X7_findAccount_X7 hown hK hP h0 (Wd_ob kg_4 sg_4 (by decide)) rfl 0 (by decide) (hts _ md_X7_findAccount_2) (fun _ h9 => h9) (fl_q rfl ek_6) dX7_findAccount_11 ?_
    refine lv_iload_n hx hb dX7_findAccount_14 rfl (lv_at hl 0 rfl) ?_
    obtain ⟨g_7, hf⟩ := grd_some hf
    obtain ⟨kg_7, sg_7, ig_7⟩ := okA_at g_7
    refine va_lald hx hb hK hP k_6 2 (Wd_al kg_7 sg_7) rfl ig_7 dX7_findAccount_15 ?_
    refine lv_lload_n hx hb dX7_findAccount_16 rfl (lv_at hl 2 rfl) ?_
    refine W.lcmp hx hb dX7_findAccount_17 ?_
    refine lv_if_ne (tgt := 23) hx hb dX7_findAccount_18 (by decide) (fun c_8 => ?_) (fun c_8 => ?_)
    · skip
      rw [lg_cmp_eq] at c_8
      rw [if_neg c_8] at hf
      refine lv_iinc (v := (p_1 + 1)) (lv' := [(3, .int (p_1 + 1)), (0, .ref (a h0)), (1, .long x0)]) hx hb dX7_findAccount_23 hl (k := 0) rfl rfl (by decide) rfl (fun ls hl2 => ?_)
      replace hl := hl2
      clear hl2
      refine lv_goto (tgt := 2) hx hb dX7_findAccount_26 (by decide) ?_
      exact ih2 (z_2, (p_1 + 1)) ls H locs ⟨lv_sub hl [0, 1, 2] rfl, hP, hD, hS⟩ hf
    · skip
      rw [lg_cmp_eq] at c_8
      rw [if_pos c_8] at hf
      refine lv_iload_n hx hb dX7_findAccount_21 rfl (lv_at hl 0 rfl) ?_
      obtain ⟨h8, h9⟩ := ret_some hf
      rw [h8, h9]
      exact W.iret (v := p_1) hx hb hr (fun t ht hW => ⟨⟨p_1, (), rfl, rfl, by rw [ht]; exact hP, va_K.moved hW.alike hK, hD⟩, hS.F ht⟩) hS.2.2 dX7_findAccount_22

theorem md_X18_findAccount_1 : (.fieldLink RX18 1 "ResourceLedgerModel" "accounts" "I" : Cond) ∈ wsX18_findAccount := List.mem_of_getElem? (i := 1) rfl
theorem iwd_X18_findAccount_X18 : ∀ w ∈ wsX180, w ∈ wsX18_findAccount := fun _ h => List.mem_cons_of_mem _ (List.mem_append_right _ h)
theorem md_X18_findAccount_2 : (.fieldLink RX18 13 "ResourceLedgerModel" "addresses" "[J" : Cond) ∈ wsX18_findAccount := List.mem_of_getElem? (i := 2) rfl
def fn_X18_findAccount_B27 (F : Nat) (sh : Nat → Nat × Nat) (n : Nat) (h0 : Nat) (z_6 : St) (p_5 : Int32) : Option (St × Int32) := if ((z_6.1 h0 3) : Int32) ≤ p_5 then some (z_6, (-1)) else some (z_6, p_5)
theorem fn_X18_findAccount_B27_s {F : Nat} {sh : Nat → Nat × Nat} {n : Nat} {h0 : Nat} {z_6 : St} {p_5 : Int32} {y : St × Int32} (h : fn_X18_findAccount_B27 F sh n h0 z_6 p_5 = some y) : (if ((z_6.1 h0 3) : Int32) ≤ p_5 then some (z_6, (-1)) else some (z_6, p_5)) = some y := h
def fn_X18_findAccount_L2 (F : Nat) (sh : Nat → Nat × Nat) (n : Nat) (h0 : Nat) (x0 : Int64) : Nat → St → Int32 → Option (St × Int32)
  | 0, _, _ => none
  | f_3 + 1, z_2, p_1 => grd (okO sh n h0 18) (if ((z_2.1 h0 3) : Int32) ≤ p_1 then fn_X18_findAccount_B27 F sh n h0 z_2 p_1 else lnk (z_2.2.2 h0 0) (fun k_9 => grd (okA sh n k_9 102 p_1) (if ((z_2.2.1 k_9 p_1.toNatClampNeg) : Int64) = x0 then fn_X18_findAccount_B27 F sh n h0 z_2 p_1 else fn_X18_findAccount_L2 F sh n h0 x0 f_3 z_2 (p_1 + 1))))
theorem fn_X18_findAccount_L2_s {F : Nat} {sh : Nat → Nat × Nat} {n : Nat} {h0 : Nat} {x0 : Int64} {f_3 : Nat} {z_2 : St} {p_1 : Int32} {y : St × Int32} (h : fn_X18_findAccount_L2 F sh n h0 x0 (f_3 + 1) z_2 p_1 = some y) : (grd (okO sh n h0 18) (if ((z_2.1 h0 3) : Int32) ≤ p_1 then fn_X18_findAccount_B27 F sh n h0 z_2 p_1 else lnk (z_2.2.2 h0 0) (fun k_9 => grd (okA sh n k_9 102 p_1) (if ((z_2.2.1 k_9 p_1.toNatClampNeg) : Int64) = x0 then fn_X18_findAccount_B27 F sh n h0 z_2 p_1 else fn_X18_findAccount_L2 F sh n h0 x0 f_3 z_2 (p_1 + 1))))) = some y := h
def fn_X18_findAccount (F : Nat) (sh : Nat → Nat × Nat) (n : Nat) (z : St) (h0 : Nat) (x0 : Int64) : Option (St × Int32) := fn_X18_findAccount_L2 F sh n h0 x0 F z 0
set_option maxHeartbeats 4000000 in
set_option maxRecDepth 100000 in
theorem de_X18_findAccount (l : Launch) (dC : Nat → ClassId) (dI : Nat → Nat → Nat) (cy : Nat → ClassId) (a : Nat → Nat) (sh : Nat → Nat × Nat) (n sz : Nat) (F : Nat) (z : St) (h0 : Nat) (x0 : Int64) {z8 : St} {r8 : Int32} (hf : fn_X18_findAccount F sh n z h0 x0 = some (z8, r8)) : Met l yX18_findAccount wsX18_findAccount ({ frames := 0, cells := 0, slots := 0, locals := 0 }) (va_Pc [.ref (a h0), .long x0] (fun U => U.heap.size = sz ∧ va_P (dC, dI) vwCl (Wd cy a sh n z) U.heap ∧ va_K (dC, dI) vwCl (TYS cy) U ∧ va_D (fun _ => True) (Wd cy a sh n z) ∧ NK U)) (va_Qi (fun (r9 : Int32) (u : Unit) => r9 = r8) (fun u t => va_P (dC, dI) vwCl (Wd cy a sh n z8) t.heap ∧ va_K (dC, dI) vwCl (TYS cy) t ∧ va_D (va_A (Wd cy a sh n z) sz) (Wd cy a sh n z8)) (va_A (Wd cy a sh n z) sz)) 0 0 (va_A (Wd cy a sh n z) sz) := by
  refine Met.ofW (cc := cX18_findAccount) (maxL := 4) (ret := (some .int)) (by decide) rfl ?_
  intro p e s m args below meth c s₁ B hml hv
  obtain ⟨rfl, hsz, hP, hK, hD0, hN⟩ := hv
  have hx := B.exec
  have hb := B.bytes
  have hr := B.returns
  have hts := atoms_spec (ws := wsX18_findAccount) B.pre
  have hown : s.vm.findClass RX18 = some m.cls := findClass_of_methodNamed B.named
  have hlocks := B.notSynchronized
  subst hsz
  have hD := hD0.self (sz := s.heap.size)
  clear hD0
  generalize hAe : va_A (Wd cy a sh n z) s.heap.size = A at hD ⊢
  have hA : ∀ q : Nat, s.heap.size ≤ q → A q := fun q h => by rw [← hAe]; exact Or.inr h
  clear hAe
  have hS : va_S A s.heap s.heap [] := va_S.rf
  have hl := lv_entry ([.ref (a h0), .long x0]) (n := 4) (Nat.le_of_ble_eq_true rfl)
  rw [lg_entry_eq]
  generalize (lg_sl ([.ref (a h0), .long x0]) ++ List.replicate (4 - (lg_sl ([.ref (a h0), .long x0])).length) Slot.unset).toArray = ls at hl ⊢
  replace hl : lv_has ls 4 [(0, .ref (a h0)), (1, .long x0)] := hl
  unfold fn_X18_findAccount at hf
  refine de_start hS hP (fun H locs hS hP => ?_)
  refine lv_iconst (v := 0) hx hb dX18_findAccount_0 (by decide) ?_
  refine lv_istore_n (lv' := [(3, .int 0), (0, .ref (a h0)), (1, .long x0)]) hx hb dX18_findAccount_1 rfl hl (by decide) rfl (fun ls hl2 => ?_)
  replace hl := hl2
  clear hl2
  have hl0 : lv_has ls 4 [(3, .int 0), (0, .ref (a h0)), (1, .long x0)] := lv_sub hl [0, 1, 2] rfl
  refine de_loop (h := 2) (fun (x : St × Int32) ls H locs => lv_has ls 4 [(3, .int x.2), (0, .ref (a h0)), (1, .long x0)] ∧ va_P (dC, dI) vwCl (Wd cy a sh n x.1) H ∧ va_D A (Wd cy a sh n x.1) ∧ va_S A s.heap H locs) (fun f x => fn_X18_findAccount_L2 F sh n h0 x0 f x.1 x.2) (z8, r8) ?_ (fun _ => rfl) F (z, 0) ls H locs ⟨hl0, hP, hD, hS⟩ hf
  intro f_3 x ls H locs ih2 hI hf
  obtain ⟨z_2, p_1⟩ := x
  obtain ⟨hl2, hP2, hD2, hS2⟩ := hI
  replace hl : lv_has ls 4 [(3, .int p_1), (0, .ref (a h0)), (1, .long x0)] := hl2
  replace hP := hP2
  replace hD := hD2
  replace hS := hS2
  clear hl2 hP2 hD2 hS2 hl0
  replace hf := fn_X18_findAccount_L2_s hf
  refine lv_iload_n hx hb dX18_findAccount_2 rfl (lv_at hl 0 rfl) ?_
  refine lv_aload_n hx hb dX18_findAccount_3 rfl (lv_at hl 1 rfl) ?_
  obtain ⟨g_4, hf⟩ := grd_some hf
  obtain ⟨kg_4, sg_4⟩ := okO_at g_4
  refine va_get (D := (dC, dI)) (ci := 18) (v := .int (z_2.1 h0 3)) (C := RX18) (T := TX18) (N := 78) hx hb hts iwd_X18_findAccount_X18 hown hK hP h0 (Wd_ob kg_4 sg_4 (by decide)) rfl 3 (by decide) (hts _ md_X18_findAccount_1) (fun _ h9 => h9) (fl_at (t := 0) rfl) dX18_findAccount_4 ?_
  refine de_cut (h := 27) (fun (x : St × Int32) => []) (fun x ls H locs => lv_has ls 4 [(3, .int x.2), (0, .ref (a h0))] ∧ va_P (dC, dI) vwCl (Wd cy a sh n x.1) H ∧ va_D A (Wd cy a sh n x.1) ∧ va_S A s.heap H locs) (fun x => fn_X18_findAccount_B27 F sh n h0 x.1 x.2) (z8, r8) ?_ (fun B27 => ?_)
  · intro x ls H locs hI hf
    obtain ⟨z_6, p_5⟩ := x
    obtain ⟨hl2, hP2, hD2, hS2⟩ := hI
    replace hl : lv_has ls 4 [(3, .int p_5), (0, .ref (a h0))] := hl2
    replace hP := hP2
    replace hD := hD2
    replace hS := hS2
    clear hl2 hP2 hD2 hS2
    replace hf := fn_X18_findAccount_B27_s hf
    refine W.eq (g2 := F0 m 27 ls []) rfl ?_
    refine lv_iload_n hx hb dX18_findAccount_27 rfl (lv_at hl 0 rfl) ?_
    refine lv_aload_n hx hb dX18_findAccount_28 rfl (lv_at hl 1 rfl) ?_
    refine va_get (D := (dC, dI)) (ci := 18) (v := .int (z_6.1 h0 3)) (C := RX18) (T := TX18) (N := 78) hx hb hts iwd_X18_findAccount_X18 hown hK hP h0 (Wd_ob kg_4 sg_4 (by decide)) rfl 3 (by decide) (hts _ md_X18_findAccount_1) (fun _ h9 => h9) (fl_at (t := 0) rfl) dX18_findAccount_29 ?_
    refine lv_icmp_ge (tgt := 39) hx hb dX18_findAccount_32 (by decide) (fun c_7 => ?_) (fun c_7 => ?_)
    · skip
      rw [if_pos c_7] at hf
      refine lv_iconst (v := (-1)) hx hb dX18_findAccount_39 (by decide) ?_
      obtain ⟨h8, h9⟩ := ret_some hf
      rw [h8, h9]
      exact W.iret (v := (-1)) hx hb hr (fun t ht hW => ⟨⟨(-1), (), rfl, rfl, by rw [ht]; exact hP, va_K.moved hW.alike hK, hD⟩, hS.F ht⟩) hS.2.2 dX18_findAccount_40
    · skip
      rw [if_neg c_7] at hf
      refine lv_iload_n hx hb dX18_findAccount_35 rfl (lv_at hl 0 rfl) ?_
      refine lv_goto (tgt := 40) hx hb dX18_findAccount_36 (by decide) ?_
      obtain ⟨h8, h9⟩ := ret_some hf
      rw [h8, h9]
      exact W.iret (v := p_5) hx hb hr (fun t ht hW => ⟨⟨p_5, (), rfl, rfl, by rw [ht]; exact hP, va_K.moved hW.alike hK, hD⟩, hS.F ht⟩) hS.2.2 dX18_findAccount_40
  refine lv_icmp_ge (tgt := 27) hx hb dX18_findAccount_7 (by decide) (fun c_8 => ?_) (fun c_8 => ?_)
  · skip
    rw [if_pos c_8] at hf
    exact B27 (z_2, p_1) ls H locs ⟨lv_sub hl [0, 1] rfl, hP, hD, hS⟩ hf
  · skip
    rw [if_neg c_8] at hf
    refine lv_aload_n hx hb dX18_findAccount_10 rfl (lv_at hl 1 rfl) ?_
    obtain ⟨k_9, ek_9, hf⟩ := lnk_some hf
    refine va_get (D := (dC, dI)) (ci := 18) (v := .ref (a k_9)) (C := RX18) (T := TX18) (N := 78) hx hb hts iwd_X18_findAccount_X18 hown hK hP h0 (Wd_ob kg_4 sg_4 (by decide)) rfl 0 (by decide) (hts _ md_X18_findAccount_2) (fun _ h9 => h9) (fl_q rfl ek_9) dX18_findAccount_11 ?_
    refine lv_iload_n hx hb dX18_findAccount_14 rfl (lv_at hl 0 rfl) ?_
    obtain ⟨g_10, hf⟩ := grd_some hf
    obtain ⟨kg_10, sg_10, ig_10⟩ := okA_at g_10
    refine va_lald hx hb hK hP k_9 2 (Wd_al kg_10 sg_10) rfl ig_10 dX18_findAccount_15 ?_
    refine lv_lload_n hx hb dX18_findAccount_16 rfl (lv_at hl 2 rfl) ?_
    refine W.lcmp hx hb dX18_findAccount_17 ?_
    refine lv_if_eq (tgt := 27) hx hb dX18_findAccount_18 (by decide) (fun c_11 => ?_) (fun c_11 => ?_)
    · skip
      rw [lg_cmp_eq] at c_11
      rw [if_pos c_11] at hf
      exact B27 (z_2, p_1) ls H locs ⟨lv_sub hl [0, 1] rfl, hP, hD, hS⟩ hf
    · skip
      rw [lg_cmp_eq] at c_11
      rw [if_neg c_11] at hf
      refine lv_iinc (v := (p_1 + 1)) (lv' := [(3, .int (p_1 + 1)), (0, .ref (a h0)), (1, .long x0)]) hx hb dX18_findAccount_21 hl (k := 0) rfl rfl (by decide) rfl (fun ls hl2 => ?_)
      replace hl := hl2
      clear hl2
      refine lv_goto (tgt := 2) hx hb dX18_findAccount_24 (by decide) ?_
      exact ih2 (z_2, (p_1 + 1)) ls H locs ⟨lv_sub hl [0, 1, 2] rfl, hP, hD, hS⟩ hf

theorem md_X7_allBalances_1 : (.fieldLink RX7 51 "ResourceLedger$State" "accountCount" "I" : Cond) ∈ wsX7_allBalances := List.mem_of_getElem? (i := 1) rfl
theorem iwd_X7_allBalances_X7 : ∀ w ∈ wsX70, w ∈ wsX7_allBalances := fun _ h => List.mem_cons_of_mem _ (List.mem_append_right _ h)
theorem md_X7_allBalances_2 : (.fieldLink RX7 15 "ResourceLedger$State" "balance" "[J" : Cond) ∈ wsX7_allBalances := List.mem_of_getElem? (i := 2) rfl
def fn_X7_allBalances_L4 (F : Nat) (sh : Nat → Nat × Nat) (n : Nat) (h0 : Nat) : Nat → St → Int64 → Int32 → Option (St × Int64)
  | 0, _, _, _ => none
  | f_4 + 1, z_3, p_1, p_2 => grd (okO sh n h0 7) (if ((z_3.1 h0 3) : Int32) ≤ p_2 then some (z_3, p_1) else lnk (z_3.2.2 h0 1) (fun k_7 => grd (okA sh n k_7 102 p_2) (lt_ (p_1 + (z_3.2.1 k_7 p_2.toNatClampNeg)) (fun v_9 => fn_X7_allBalances_L4 F sh n h0 f_4 z_3 v_9 (p_2 + 1)))))
theorem fn_X7_allBalances_L4_s {F : Nat} {sh : Nat → Nat × Nat} {n : Nat} {h0 : Nat} {f_4 : Nat} {z_3 : St} {p_1 : Int64} {p_2 : Int32} {y : St × Int64} (h : fn_X7_allBalances_L4 F sh n h0 (f_4 + 1) z_3 p_1 p_2 = some y) : (grd (okO sh n h0 7) (if ((z_3.1 h0 3) : Int32) ≤ p_2 then some (z_3, p_1) else lnk (z_3.2.2 h0 1) (fun k_7 => grd (okA sh n k_7 102 p_2) (lt_ (p_1 + (z_3.2.1 k_7 p_2.toNatClampNeg)) (fun v_9 => fn_X7_allBalances_L4 F sh n h0 f_4 z_3 v_9 (p_2 + 1)))))) = some y := h
def fn_X7_allBalances (F : Nat) (sh : Nat → Nat × Nat) (n : Nat) (z : St) (h0 : Nat) : Option (St × Int64) := fn_X7_allBalances_L4 F sh n h0 F z 0 0
set_option maxHeartbeats 4000000 in
set_option maxRecDepth 100000 in
theorem de_X7_allBalances (l : Launch) (dC : Nat → ClassId) (dI : Nat → Nat → Nat) (cy : Nat → ClassId) (a : Nat → Nat) (sh : Nat → Nat × Nat) (n sz : Nat) (F : Nat) (z : St) (h0 : Nat) {z8 : St} {r8 : Int64} (hf : fn_X7_allBalances F sh n z h0 = some (z8, r8)) : Met l yX7_allBalances wsX7_allBalances ({ frames := 0, cells := 0, slots := 0, locals := 0 }) (va_Pc [.ref (a h0)] (fun U => U.heap.size = sz ∧ va_P (dC, dI) vwCl (Wd cy a sh n z) U.heap ∧ va_K (dC, dI) vwCl (TYS cy) U ∧ va_D (fun _ => True) (Wd cy a sh n z) ∧ NK U)) (va_Ql (fun (r9 : Int64) (u : Unit) => r9 = r8) (fun u t => va_P (dC, dI) vwCl (Wd cy a sh n z8) t.heap ∧ va_K (dC, dI) vwCl (TYS cy) t ∧ va_D (va_A (Wd cy a sh n z) sz) (Wd cy a sh n z8)) (va_A (Wd cy a sh n z) sz)) 0 0 (va_A (Wd cy a sh n z) sz) := by
  refine Met.ofW (cc := cX7_allBalances) (maxL := 4) (ret := (some .long)) (by decide) rfl ?_
  intro p e s m args below meth c s₁ B hml hv
  obtain ⟨rfl, hsz, hP, hK, hD0, hN⟩ := hv
  have hx := B.exec
  have hb := B.bytes
  have hr := B.returns
  have hts := atoms_spec (ws := wsX7_allBalances) B.pre
  have hown : s.vm.findClass RX7 = some m.cls := findClass_of_methodNamed B.named
  have hlocks := B.notSynchronized
  subst hsz
  have hD := hD0.self (sz := s.heap.size)
  clear hD0
  generalize hAe : va_A (Wd cy a sh n z) s.heap.size = A at hD ⊢
  have hA : ∀ q : Nat, s.heap.size ≤ q → A q := fun q h => by rw [← hAe]; exact Or.inr h
  clear hAe
  have hS : va_S A s.heap s.heap [] := va_S.rf
  have hl := lv_entry ([.ref (a h0)]) (n := 4) (Nat.le_of_ble_eq_true rfl)
  rw [lg_entry_eq]
  generalize (lg_sl ([.ref (a h0)]) ++ List.replicate (4 - (lg_sl ([.ref (a h0)])).length) Slot.unset).toArray = ls at hl ⊢
  replace hl : lv_has ls 4 [(0, .ref (a h0))] := hl
  unfold fn_X7_allBalances at hf
  refine de_start hS hP (fun H locs hS hP => ?_)
  refine lv_lconst (v := 0) hx hb dX7_allBalances_0 (by decide) ?_
  refine lv_lstore_n (lv' := [(1, .long 0), (0, .ref (a h0))]) hx hb dX7_allBalances_1 rfl hl (by decide) rfl (fun ls hl2 => ?_)
  replace hl := hl2
  clear hl2
  refine lv_iconst (v := 0) hx hb dX7_allBalances_2 (by decide) ?_
  refine lv_istore_n (lv' := [(3, .int 0), (1, .long 0), (0, .ref (a h0))]) hx hb dX7_allBalances_3 rfl hl (by decide) rfl (fun ls hl2 => ?_)
  replace hl := hl2
  clear hl2
  have hl0 : lv_has ls 4 [(3, .int 0), (1, .long 0), (0, .ref (a h0))] := lv_sub hl [0, 1, 2] rfl
  refine de_loop (h := 4) (fun (x : St × Int64 × Int32) ls H locs => lv_has ls 4 [(3, .int x.2.2), (1, .long x.2.1), (0, .ref (a h0))] ∧ va_P (dC, dI) vwCl (Wd cy a sh n x.1) H ∧ va_D A (Wd cy a sh n x.1) ∧ va_S A s.heap H locs) (fun f x => fn_X7_allBalances_L4 F sh n h0 f x.1 x.2.1 x.2.2) (z8, r8) ?_ (fun _ => rfl) F (z, 0, 0) ls H locs ⟨hl0, hP, hD, hS⟩ hf
  intro f_4 x ls H locs ih4 hI hf
  obtain ⟨z_3, p_1, p_2⟩ := x
  obtain ⟨hl2, hP2, hD2, hS2⟩ := hI
  replace hl : lv_has ls 4 [(3, .int p_2), (1, .long p_1), (0, .ref (a h0))] := hl2
  replace hP := hP2
  replace hD := hD2
  replace hS := hS2
  clear hl2 hP2 hD2 hS2 hl0
  replace hf := fn_X7_allBalances_L4_s hf
  refine lv_iload_n hx hb dX7_allBalances_4 rfl (lv_at hl 0 rfl) ?_
  refine lv_aload_n hx hb dX7_allBalances_5 rfl (lv_at hl 2 rfl) ?_
  obtain ⟨g_5, hf⟩ := grd_some hf
  obtain ⟨kg_5, sg_5⟩ := okO_at g_5
  refine va_get (D := (dC, dI)) (ci := 7) (v := .int (z_3.1 h0 3)) (C := RX7) (T := TX7) (N := 16) hx hb hts iwd_X7_allBalances_X7 hown hK hP h0 (Wd_ob kg_5 sg_5 (by decide)) rfl 3 (by decide) (hts _ md_X7_allBalances_1) (fun _ h9 => h9) (fl_at (t := 0) rfl) dX7_allBalances_6 ?_
  refine lv_icmp_ge (tgt := 27) hx hb dX7_allBalances_9 (by decide) (fun c_6 => ?_) (fun c_6 => ?_)
  · skip
    rw [if_pos c_6] at hf
    refine lv_lload_n hx hb dX7_allBalances_27 rfl (lv_at hl 1 rfl) ?_
    obtain ⟨h8, h9⟩ := ret_some hf
    rw [h8, h9]
    exact W.lret (v := p_1) hx hb hr (fun t ht hW => ⟨⟨p_1, (), rfl, rfl, by rw [ht]; exact hP, va_K.moved hW.alike hK, hD⟩, hS.F ht⟩) hS.2.2 dX7_allBalances_28
  · skip
    rw [if_neg c_6] at hf
    refine lv_lload_n hx hb dX7_allBalances_12 rfl (lv_at hl 1 rfl) ?_
    refine lv_aload_n hx hb dX7_allBalances_13 rfl (lv_at hl 2 rfl) ?_
    obtain ⟨k_7, ek_7, hf⟩ := lnk_some hf
    refine va_get (D := (dC, dI)) (ci := 7) (v := .ref (a k_7)) (C := RX7) (T := TX7) (N := 16) hx hb hts iwd_X7_allBalances_X7 hown hK hP h0 (Wd_ob kg_5 sg_5 (by decide)) rfl 1 (by decide) (hts _ md_X7_allBalances_2) (fun _ h9 => h9) (fl_q rfl ek_7) dX7_allBalances_14 ?_
    refine lv_iload_n hx hb dX7_allBalances_17 rfl (lv_at hl 0 rfl) ?_
    obtain ⟨g_8, hf⟩ := grd_some hf
    obtain ⟨kg_8, sg_8, ig_8⟩ := okA_at g_8
    refine va_lald hx hb hK hP k_7 2 (Wd_al kg_8 sg_8) rfl ig_8 dX7_allBalances_18 ?_
    refine lv_ladd hx hb dX7_allBalances_19 ?_
    refine lv_topl (fun v_9 ev_9 => ?_)
    replace hf := lt_at ev_9 hf
    clear ev_9
    refine lv_lstore_n (lv' := [(1, .long v_9), (3, .int p_2), (0, .ref (a h0))]) hx hb dX7_allBalances_20 rfl hl (by decide) rfl (fun ls hl2 => ?_)
    replace hl := hl2
    clear hl2
    refine lv_iinc (v := (p_2 + 1)) (lv' := [(3, .int (p_2 + 1)), (1, .long v_9), (0, .ref (a h0))]) hx hb dX7_allBalances_21 hl (k := 1) rfl rfl (by decide) rfl (fun ls hl2 => ?_)
    replace hl := hl2
    clear hl2
    refine lv_goto (tgt := 4) hx hb dX7_allBalances_24 (by decide) ?_
    exact ih4 (z_3, v_9, (p_2 + 1)) ls H locs ⟨lv_sub hl [0, 1, 2] rfl, hP, hD, hS⟩ hf

theorem md_X11_account_1 : (.fieldLink RX11 22 "ResourceLedger" "state" "LResourceLedger$State;" : Cond) ∈ wsX11_account := List.mem_of_getElem? (i := 1) rfl
theorem iwd_X11_account_X11 : ∀ w ∈ wsX110, w ∈ wsX11_account := fun _ h => List.mem_cons_of_mem _ (List.mem_append_left _ (List.mem_append_right _ h))
theorem md_X11_account_3 : (.fieldLink RX11 180 "ResourceLedger$State" "sequence" "[J" : Cond) ∈ wsX11_account := List.mem_of_getElem? (i := 3) rfl
theorem iwd_X11_account_X7 : ∀ w ∈ wsX70, w ∈ wsX11_account := fun _ h => List.mem_cons_of_mem _ (List.mem_append_right _ h)
theorem md_X11_account_2 : (.fieldLink RX11 104 "ResourceLedger$State" "balance" "[J" : Cond) ∈ wsX11_account := List.mem_of_getElem? (i := 2) rfl
def fn_X11_account (F : Nat) (sh : Nat → Nat × Nat) (n : Nat) (z : St) (h0 : Nat) (x0 : Int64) (x1 : Int32) : Option (St × Int64) := grd (okO sh n h0 11) (lnk (z.2.2 h0 6) (fun k_2 => grd (okO sh n k_2 7) (cal (fn_X7_findAccount F sh n z k_2 x0) (fun z_3 r_4 => if (0 : Int32) ≤ r_4 then if (x1 : Int32) = 0 then lnk (z_3.2.2 h0 6) (fun k_14 => grd (okO sh n k_14 7) (lnk (z_3.2.2 k_14 1) (fun k_16 => grd (okA sh n k_16 102 r_4) (some (z_3, (z_3.2.1 k_16 r_4.toNatClampNeg)))))) else if (x1 : Int32) = 1 then lnk (z_3.2.2 h0 6) (fun k_10 => grd (okO sh n k_10 7) (lnk (z_3.2.2 k_10 2) (fun k_12 => grd (okA sh n k_12 102 r_4) (some (z_3, (z_3.2.1 k_12 r_4.toNatClampNeg)))))) else some (z_3, 0) else some (z_3, 0)))))
set_option maxHeartbeats 4000000 in
set_option maxRecDepth 100000 in
theorem de_X11_account (l : Launch) (dC : Nat → ClassId) (dI : Nat → Nat → Nat) (cy : Nat → ClassId) (a : Nat → Nat) (sh : Nat → Nat × Nat) (n sz : Nat) (F : Nat) (z : St) (h0 : Nat) (x0 : Int64) (x1 : Int32) {z8 : St} {r8 : Int64} (hf : fn_X11_account F sh n z h0 x0 x1 = some (z8, r8)) : Met l yX11_account wsX11_account ({ frames := 1, cells := 0, slots := 0, locals := 23 }) (va_Pc [.ref (a h0), .long x0, .int x1] (fun U => U.heap.size = sz ∧ va_P (dC, dI) vwCl (Wd cy a sh n z) U.heap ∧ va_K (dC, dI) vwCl (TYS cy) U ∧ va_D (fun _ => True) (Wd cy a sh n z) ∧ NK U)) (va_Ql (fun (r9 : Int64) (u : Unit) => r9 = r8) (fun u t => va_P (dC, dI) vwCl (Wd cy a sh n z8) t.heap ∧ va_K (dC, dI) vwCl (TYS cy) t ∧ va_D (va_A (Wd cy a sh n z) sz) (Wd cy a sh n z8)) (va_A (Wd cy a sh n z) sz)) 0 0 (va_A (Wd cy a sh n z) sz) := by
  refine Met.ofW (cc := cX11_account) (maxL := 5) (ret := (some .long)) (by decide) rfl ?_
  intro p e s m args below meth c s₁ B hml hv
  obtain ⟨rfl, hsz, hP, hK, hD0, hN⟩ := hv
  have hx := B.exec
  have hb := B.bytes
  have hr := B.returns
  have hts := atoms_spec (ws := wsX11_account) B.pre
  have hown : s.vm.findClass RX11 = some m.cls := findClass_of_methodNamed B.named
  have hlocks := B.notSynchronized
  subst hsz
  have hD := hD0.self (sz := s.heap.size)
  clear hD0
  generalize hAe : va_A (Wd cy a sh n z) s.heap.size = A at hD ⊢
  have hA : ∀ q : Nat, s.heap.size ≤ q → A q := fun q h => by rw [← hAe]; exact Or.inr h
  clear hAe
  have hS : va_S A s.heap s.heap [] := va_S.rf
  have hl := lv_entry ([.ref (a h0), .long x0, .int x1]) (n := 5) (Nat.le_of_ble_eq_true rfl)
  rw [lg_entry_eq]
  generalize (lg_sl ([.ref (a h0), .long x0, .int x1]) ++ List.replicate (5 - (lg_sl ([.ref (a h0), .long x0, .int x1])).length) Slot.unset).toArray = ls at hl ⊢
  replace hl : lv_has ls 5 [(0, .ref (a h0)), (1, .long x0), (3, .int x1)] := hl
  unfold fn_X11_account at hf
  refine de_start hS hP (fun H locs hS hP => ?_)
  refine lv_aload_n hx hb dX11_account_0 rfl (lv_at hl 0 rfl) ?_
  obtain ⟨g_1, hf⟩ := grd_some hf
  obtain ⟨kg_1, sg_1⟩ := okO_at g_1
  obtain ⟨k_2, ek_2, hf⟩ := lnk_some hf
  refine va_get (D := (dC, dI)) (ci := 11) (v := .ref (a k_2)) (C := RX11) (T := TX11) (N := 13) hx hb hts iwd_X11_account_X11 hown hK hP h0 (Wd_ob kg_1 sg_1 (by decide)) rfl 6 (by decide) (hts _ md_X11_account_1) (fun _ h9 => h9) (fl_q rfl ek_2) dX11_account_1 ?_
  refine lv_lload_n hx hb dX11_account_4 rfl (lv_at hl 1 rfl) ?_
  obtain ⟨g_5, hf⟩ := grd_some hf
  obtain ⟨kg_5, sg_5⟩ := okO_at g_5
  obtain ⟨z_3, r_4, hfc, hf⟩ := cal_some hf
  have hFc := de_free hD hS hA
  refine va_calli (va_runV (As := [.long x0]) (rest := []) ⟨hx, hb, hml, hown, hts⟩ (de_X7_findAccount l dC dI cy a sh n H.size F z k_2 x0 hfc) (cwV 1 hts gX11_account_X7_findAccount rfl rfl rfl (by decide +kernel) ⟨Nat.le_of_ble_eq_true rfl, Nat.le_of_ble_eq_true rfl⟩) ⟨fun a U g mk q => by obtain ⟨q0, q1, qP, qK, qD, qN⟩ := q; exact ⟨q0, q1, qP, va_K.moved (u := U) (U := U.calling g mk a) (Vm.Alike.refl U.vm) qK, qD, qN.same rfl⟩, va_recv hK hP (ci := 7) (q0 := k_2) rfl (Wd_ob kg_5 sg_5 (by decide)), fun U hU hW => ⟨rfl, by rw [hU], by rw [hU]; exact hP, va_K.moved hW.alike hK, hD.weaken (fun _ _ _ _ => trivial), hN.warm hW⟩⟩ rfl rfl hl.1 rfl (lv_room (Nat.le_of_ble_eq_true rfl)) dX11_account_5 ⟨Nat.le_of_ble_eq_true rfl, Nat.le_of_ble_eq_true rfl⟩) hS (fun q _ h => hFc q h) hFc (fun rr u t H_6 locs ht hvm hw hB hz1 hk1 hS2 => ?_)
  rw [hw]
  clear hw
  obtain ⟨hP1, -, hD1⟩ := hB
  rw [ht] at hP1
  replace hD := hD1.weaken (fun _ _ _ h => hFc _ h)
  replace hP := hP1
  replace hS := hS2
  clear hP1 hD1 hS2 hFc hfc hz1 hk1 hvm ht
  refine lv_istore (lv' := [(4, .int r_4), (0, .ref (a h0)), (1, .long x0), (3, .int x1)]) hx hb dX11_account_8 hl (by decide) rfl (fun ls hl2 => ?_)
  replace hl := hl2
  clear hl2
  refine lv_iload hx hb dX11_account_10 (lv_at hl 0 rfl) ?_
  refine lv_if_ge (tgt := 17) hx hb dX11_account_12 (by decide) (fun c_7 => ?_) (fun c_7 => ?_)
  · skip
    rw [if_pos c_7] at hf
    refine lv_iload_n hx hb dX11_account_17 rfl (lv_at hl 3 rfl) ?_
    refine lv_if_ne (tgt := 32) hx hb dX11_account_18 (by decide) (fun c_8 => ?_) (fun c_8 => ?_)
    · skip
      rw [if_neg c_8] at hf
      refine lv_iload_n hx hb dX11_account_32 rfl (lv_at hl 3 rfl) ?_
      refine lv_iconst (v := 1) hx hb dX11_account_33 (by decide) ?_
      refine lv_icmp_ne (tgt := 50) hx hb dX11_account_34 (by decide) (fun c_9 => ?_) (fun c_9 => ?_)
      · skip
        rw [if_neg c_9] at hf
        refine lv_lconst (v := 0) hx hb dX11_account_50 (by decide) ?_
        obtain ⟨h8, h9⟩ := ret_some hf
        rw [h8, h9]
        exact W.lret (v := 0) hx hb hr (fun t ht hW => ⟨⟨0, (), rfl, rfl, by rw [ht]; exact hP, va_K.moved hW.alike hK, hD⟩, hS.F ht⟩) hS.2.2 dX11_account_51
      · skip
        rw [if_pos c_9] at hf
        refine lv_aload_n hx hb dX11_account_37 rfl (lv_at hl 1 rfl) ?_
        obtain ⟨k_10, ek_10, hf⟩ := lnk_some hf
        refine va_get (D := (dC, dI)) (ci := 11) (v := .ref (a k_10)) (C := RX11) (T := TX11) (N := 13) hx hb hts iwd_X11_account_X11 hown hK hP h0 (Wd_ob kg_1 sg_1 (by decide)) rfl 6 (by decide) (hts _ md_X11_account_1) (fun _ h9 => h9) (fl_q rfl ek_10) dX11_account_38 ?_
        obtain ⟨g_11, hf⟩ := grd_some hf
        obtain ⟨kg_11, sg_11⟩ := okO_at g_11
        obtain ⟨k_12, ek_12, hf⟩ := lnk_some hf
        refine va_get (D := (dC, dI)) (ci := 7) (v := .ref (a k_12)) (C := RX7) (T := TX7) (N := 16) hx hb hts iwd_X11_account_X7 hown hK hP k_10 (Wd_ob kg_11 sg_11 (by decide)) rfl 2 (by decide) (hts _ md_X11_account_3) (fun _ h9 => h9) (fl_q rfl ek_12) dX11_account_41 ?_
        refine lv_iload hx hb dX11_account_44 (lv_at hl 0 rfl) ?_
        obtain ⟨g_13, hf⟩ := grd_some hf
        obtain ⟨kg_13, sg_13, ig_13⟩ := okA_at g_13
        refine va_lald hx hb hK hP k_12 2 (Wd_al kg_13 sg_13) rfl ig_13 dX11_account_46 ?_
        refine lv_goto (tgt := 51) hx hb dX11_account_47 (by decide) ?_
        obtain ⟨h8, h9⟩ := ret_some hf
        rw [h8, h9]
        exact W.lret (v := (z_3.2.1 k_12 r_4.toNatClampNeg)) hx hb hr (fun t ht hW => ⟨⟨(z_3.2.1 k_12 r_4.toNatClampNeg), (), rfl, rfl, by rw [ht]; exact hP, va_K.moved hW.alike hK, hD⟩, hS.F ht⟩) hS.2.2 dX11_account_51
    · skip
      rw [if_pos c_8] at hf
      refine lv_aload_n hx hb dX11_account_21 rfl (lv_at hl 1 rfl) ?_
      obtain ⟨k_14, ek_14, hf⟩ := lnk_some hf
      refine va_get (D := (dC, dI)) (ci := 11) (v := .ref (a k_14)) (C := RX11) (T := TX11) (N := 13) hx hb hts iwd_X11_account_X11 hown hK hP h0 (Wd_ob kg_1 sg_1 (by decide)) rfl 6 (by decide) (hts _ md_X11_account_1) (fun _ h9 => h9) (fl_q rfl ek_14) dX11_account_22 ?_
      obtain ⟨g_15, hf⟩ := grd_some hf
      obtain ⟨kg_15, sg_15⟩ := okO_at g_15
      obtain ⟨k_16, ek_16, hf⟩ := lnk_some hf
      refine va_get (D := (dC, dI)) (ci := 7) (v := .ref (a k_16)) (C := RX7) (T := TX7) (N := 16) hx hb hts iwd_X11_account_X7 hown hK hP k_14 (Wd_ob kg_15 sg_15 (by decide)) rfl 1 (by decide) (hts _ md_X11_account_2) (fun _ h9 => h9) (fl_q rfl ek_16) dX11_account_25 ?_
      refine lv_iload hx hb dX11_account_28 (lv_at hl 0 rfl) ?_
      obtain ⟨g_17, hf⟩ := grd_some hf
      obtain ⟨kg_17, sg_17, ig_17⟩ := okA_at g_17
      refine va_lald hx hb hK hP k_16 2 (Wd_al kg_17 sg_17) rfl ig_17 dX11_account_30 ?_
      obtain ⟨h8, h9⟩ := ret_some hf
      rw [h8, h9]
      exact W.lret (v := (z_3.2.1 k_16 r_4.toNatClampNeg)) hx hb hr (fun t ht hW => ⟨⟨(z_3.2.1 k_16 r_4.toNatClampNeg), (), rfl, rfl, by rw [ht]; exact hP, va_K.moved hW.alike hK, hD⟩, hS.F ht⟩) hS.2.2 dX11_account_31
  · skip
    rw [if_neg c_7] at hf
    refine lv_lconst (v := 0) hx hb dX11_account_15 (by decide) ?_
    obtain ⟨h8, h9⟩ := ret_some hf
    rw [h8, h9]
    exact W.lret (v := 0) hx hb hr (fun t ht hW => ⟨⟨0, (), rfl, rfl, by rw [ht]; exact hP, va_K.moved hW.alike hK, hD⟩, hS.F ht⟩) hS.2.2 dX11_account_16

theorem md_X18_account_2 : (.fieldLink RX18 519 "ResourceLedgerModel" "sequences" "[J" : Cond) ∈ wsX18_account := List.mem_of_getElem? (i := 2) rfl
theorem iwd_X18_account_X18 : ∀ w ∈ wsX180, w ∈ wsX18_account := fun _ h => List.mem_cons_of_mem _ (List.mem_append_right _ h)
theorem md_X18_account_1 : (.fieldLink RX18 303 "ResourceLedgerModel" "balances" "[J" : Cond) ∈ wsX18_account := List.mem_of_getElem? (i := 1) rfl
def fn_X18_account (F : Nat) (sh : Nat → Nat × Nat) (n : Nat) (z : St) (h0 : Nat) (x0 : Int64) (x1 : Int32) : Option (St × Int64) := grd (okO sh n h0 18) (cal (fn_X18_findAccount F sh n z h0 x0) (fun z_1 r_2 => if (0 : Int32) ≤ r_2 then if (x1 : Int32) = 0 then lnk (z_1.2.2 h0 1) (fun k_10 => grd (okA sh n k_10 102 r_2) (some (z_1, (z_1.2.1 k_10 r_2.toNatClampNeg)))) else if (x1 : Int32) = 1 then lnk (z_1.2.2 h0 2) (fun k_8 => grd (okA sh n k_8 102 r_2) (some (z_1, (z_1.2.1 k_8 r_2.toNatClampNeg)))) else some (z_1, 0) else some (z_1, 0)))
set_option maxHeartbeats 4000000 in
set_option maxRecDepth 100000 in
theorem de_X18_account (l : Launch) (dC : Nat → ClassId) (dI : Nat → Nat → Nat) (cy : Nat → ClassId) (a : Nat → Nat) (sh : Nat → Nat × Nat) (n sz : Nat) (F : Nat) (z : St) (h0 : Nat) (x0 : Int64) (x1 : Int32) {z8 : St} {r8 : Int64} (hf : fn_X18_account F sh n z h0 x0 x1 = some (z8, r8)) : Met l yX18_account wsX18_account ({ frames := 1, cells := 0, slots := 0, locals := 23 }) (va_Pc [.ref (a h0), .long x0, .int x1] (fun U => U.heap.size = sz ∧ va_P (dC, dI) vwCl (Wd cy a sh n z) U.heap ∧ va_K (dC, dI) vwCl (TYS cy) U ∧ va_D (fun _ => True) (Wd cy a sh n z) ∧ NK U)) (va_Ql (fun (r9 : Int64) (u : Unit) => r9 = r8) (fun u t => va_P (dC, dI) vwCl (Wd cy a sh n z8) t.heap ∧ va_K (dC, dI) vwCl (TYS cy) t ∧ va_D (va_A (Wd cy a sh n z) sz) (Wd cy a sh n z8)) (va_A (Wd cy a sh n z) sz)) 0 0 (va_A (Wd cy a sh n z) sz) := by
  refine Met.ofW (cc := cX18_account) (maxL := 5) (ret := (some .long)) (by decide) rfl ?_
  intro p e s m args below meth c s₁ B hml hv
  obtain ⟨rfl, hsz, hP, hK, hD0, hN⟩ := hv
  have hx := B.exec
  have hb := B.bytes
  have hr := B.returns
  have hts := atoms_spec (ws := wsX18_account) B.pre
  have hown : s.vm.findClass RX18 = some m.cls := findClass_of_methodNamed B.named
  have hlocks := B.notSynchronized
  subst hsz
  have hD := hD0.self (sz := s.heap.size)
  clear hD0
  generalize hAe : va_A (Wd cy a sh n z) s.heap.size = A at hD ⊢
  have hA : ∀ q : Nat, s.heap.size ≤ q → A q := fun q h => by rw [← hAe]; exact Or.inr h
  clear hAe
  have hS : va_S A s.heap s.heap [] := va_S.rf
  have hl := lv_entry ([.ref (a h0), .long x0, .int x1]) (n := 5) (Nat.le_of_ble_eq_true rfl)
  rw [lg_entry_eq]
  generalize (lg_sl ([.ref (a h0), .long x0, .int x1]) ++ List.replicate (5 - (lg_sl ([.ref (a h0), .long x0, .int x1])).length) Slot.unset).toArray = ls at hl ⊢
  replace hl : lv_has ls 5 [(0, .ref (a h0)), (1, .long x0), (3, .int x1)] := hl
  unfold fn_X18_account at hf
  refine de_start hS hP (fun H locs hS hP => ?_)
  refine lv_aload_n hx hb dX18_account_0 rfl (lv_at hl 0 rfl) ?_
  refine lv_lload_n hx hb dX18_account_1 rfl (lv_at hl 1 rfl) ?_
  obtain ⟨g_3, hf⟩ := grd_some hf
  obtain ⟨kg_3, sg_3⟩ := okO_at g_3
  obtain ⟨z_1, r_2, hfc, hf⟩ := cal_some hf
  have hFc := de_free hD hS hA
  refine va_calli (va_runV (As := [.long x0]) (rest := []) ⟨hx, hb, hml, hown, hts⟩ (de_X18_findAccount l dC dI cy a sh n H.size F z h0 x0 hfc) (cwV 1 hts gX18_account_X18_findAccount rfl rfl rfl (by decide +kernel) ⟨Nat.le_of_ble_eq_true rfl, Nat.le_of_ble_eq_true rfl⟩) ⟨fun a U g mk q => by obtain ⟨q0, q1, qP, qK, qD, qN⟩ := q; exact ⟨q0, q1, qP, va_K.moved (u := U) (U := U.calling g mk a) (Vm.Alike.refl U.vm) qK, qD, qN.same rfl⟩, va_recv hK hP (ci := 18) (q0 := h0) rfl (Wd_ob kg_3 sg_3 (by decide)), fun U hU hW => ⟨rfl, by rw [hU], by rw [hU]; exact hP, va_K.moved hW.alike hK, hD.weaken (fun _ _ _ _ => trivial), hN.warm hW⟩⟩ rfl rfl hl.1 rfl (lv_room (Nat.le_of_ble_eq_true rfl)) dX18_account_2 ⟨Nat.le_of_ble_eq_true rfl, Nat.le_of_ble_eq_true rfl⟩) hS (fun q _ h => hFc q h) hFc (fun rr u t H_4 locs ht hvm hw hB hz1 hk1 hS2 => ?_)
  rw [hw]
  clear hw
  obtain ⟨hP1, -, hD1⟩ := hB
  rw [ht] at hP1
  replace hD := hD1.weaken (fun _ _ _ h => hFc _ h)
  replace hP := hP1
  replace hS := hS2
  clear hP1 hD1 hS2 hFc hfc hz1 hk1 hvm ht
  refine lv_istore (lv' := [(4, .int r_2), (0, .ref (a h0)), (1, .long x0), (3, .int x1)]) hx hb dX18_account_5 hl (by decide) rfl (fun ls hl2 => ?_)
  replace hl := hl2
  clear hl2
  refine lv_iload hx hb dX18_account_7 (lv_at hl 0 rfl) ?_
  refine lv_if_ge (tgt := 16) hx hb dX18_account_9 (by decide) (fun c_5 => ?_) (fun c_5 => ?_)
  · skip
    rw [if_pos c_5] at hf
    refine lv_iload_n hx hb dX18_account_16 rfl (lv_at hl 3 rfl) ?_
    refine lv_if_ne (tgt := 30) hx hb dX18_account_17 (by decide) (fun c_6 => ?_) (fun c_6 => ?_)
    · skip
      rw [if_neg c_6] at hf
      refine lv_iload_n hx hb dX18_account_30 rfl (lv_at hl 3 rfl) ?_
      refine lv_iconst (v := 1) hx hb dX18_account_31 (by decide) ?_
      refine lv_icmp_ne (tgt := 45) hx hb dX18_account_32 (by decide) (fun c_7 => ?_) (fun c_7 => ?_)
      · skip
        rw [if_neg c_7] at hf
        refine lv_lconst (v := 0) hx hb dX18_account_45 (by decide) ?_
        obtain ⟨h8, h9⟩ := ret_some hf
        rw [h8, h9]
        exact W.lret (v := 0) hx hb hr (fun t ht hW => ⟨⟨0, (), rfl, rfl, by rw [ht]; exact hP, va_K.moved hW.alike hK, hD⟩, hS.F ht⟩) hS.2.2 dX18_account_46
      · skip
        rw [if_pos c_7] at hf
        refine lv_aload_n hx hb dX18_account_35 rfl (lv_at hl 1 rfl) ?_
        obtain ⟨k_8, ek_8, hf⟩ := lnk_some hf
        refine va_get (D := (dC, dI)) (ci := 18) (v := .ref (a k_8)) (C := RX18) (T := TX18) (N := 78) hx hb hts iwd_X18_account_X18 hown hK hP h0 (Wd_ob kg_3 sg_3 (by decide)) rfl 2 (by decide) (hts _ md_X18_account_2) (fun _ h9 => h9) (fl_q rfl ek_8) dX18_account_36 ?_
        refine lv_iload hx hb dX18_account_39 (lv_at hl 0 rfl) ?_
        obtain ⟨g_9, hf⟩ := grd_some hf
        obtain ⟨kg_9, sg_9, ig_9⟩ := okA_at g_9
        refine va_lald hx hb hK hP k_8 2 (Wd_al kg_9 sg_9) rfl ig_9 dX18_account_41 ?_
        refine lv_goto (tgt := 46) hx hb dX18_account_42 (by decide) ?_
        obtain ⟨h8, h9⟩ := ret_some hf
        rw [h8, h9]
        exact W.lret (v := (z_1.2.1 k_8 r_2.toNatClampNeg)) hx hb hr (fun t ht hW => ⟨⟨(z_1.2.1 k_8 r_2.toNatClampNeg), (), rfl, rfl, by rw [ht]; exact hP, va_K.moved hW.alike hK, hD⟩, hS.F ht⟩) hS.2.2 dX18_account_46
    · skip
      rw [if_pos c_6] at hf
      refine lv_aload_n hx hb dX18_account_20 rfl (lv_at hl 1 rfl) ?_
      obtain ⟨k_10, ek_10, hf⟩ := lnk_some hf
      refine va_get (D := (dC, dI)) (ci := 18) (v := .ref (a k_10)) (C := RX18) (T := TX18) (N := 78) hx hb hts iwd_X18_account_X18 hown hK hP h0 (Wd_ob kg_3 sg_3 (by decide)) rfl 1 (by decide) (hts _ md_X18_account_1) (fun _ h9 => h9) (fl_q rfl ek_10) dX18_account_21 ?_
      refine lv_iload hx hb dX18_account_24 (lv_at hl 0 rfl) ?_
      obtain ⟨g_11, hf⟩ := grd_some hf
      obtain ⟨kg_11, sg_11, ig_11⟩ := okA_at g_11
      refine va_lald hx hb hK hP k_10 2 (Wd_al kg_11 sg_11) rfl ig_11 dX18_account_26 ?_
      refine lv_goto (tgt := 46) hx hb dX18_account_27 (by decide) ?_
      obtain ⟨h8, h9⟩ := ret_some hf
      rw [h8, h9]
      exact W.lret (v := (z_1.2.1 k_10 r_2.toNatClampNeg)) hx hb hr (fun t ht hW => ⟨⟨(z_1.2.1 k_10 r_2.toNatClampNeg), (), rfl, rfl, by rw [ht]; exact hP, va_K.moved hW.alike hK, hD⟩, hS.F ht⟩) hS.2.2 dX18_account_46
  · skip
    rw [if_neg c_5] at hf
    refine lv_lconst (v := 0) hx hb dX18_account_12 (by decide) ?_
    refine lv_goto (tgt := 46) hx hb dX18_account_13 (by decide) ?_
    obtain ⟨h8, h9⟩ := ret_some hf
    rw [h8, h9]
    exact W.lret (v := 0) hx hb hr (fun t ht hW => ⟨⟨0, (), rfl, rfl, by rw [ht]; exact hP, va_K.moved hW.alike hK, hD⟩, hS.F ht⟩) hS.2.2 dX18_account_46

theorem md_X7_openAccount_1 : (.fieldLink RX7 51 "ResourceLedger$State" "accountCount" "I" : Cond) ∈ wsX7_openAccount := List.mem_of_getElem? (i := 1) rfl
theorem iwd_X7_openAccount_X7 : ∀ w ∈ wsX70, w ∈ wsX7_openAccount := fun _ h => List.mem_cons_of_mem _ (List.mem_append_right _ h)
theorem md_X7_openAccount_2 : (.methodLink RX7 61 Lib.Math.min.name : Cond) ∈ wsX7_openAccount := List.mem_of_getElem? (i := 2) rfl
theorem md_X7_openAccount_3 : (.static Lib.Math.min.name : Cond) ∈ wsX7_openAccount := List.mem_of_getElem? (i := 3) rfl
theorem md_X7_openAccount_4 : (.initialized "java/lang/Math" : Cond) ∈ wsX7_openAccount := List.mem_of_getElem? (i := 4) rfl
theorem md_X7_openAccount_5 : (.code Lib.Math.min.name Lib.Math.min.code 2 (some .int) : Cond) ∈ wsX7_openAccount := List.mem_of_getElem? (i := 5) rfl
theorem md_X7_openAccount_6 : (.fieldLink RX7 9 "ResourceLedger$State" "accountAddress" "[J" : Cond) ∈ wsX7_openAccount := List.mem_of_getElem? (i := 6) rfl
theorem md_X7_openAccount_7 : (.fieldLink RX7 15 "ResourceLedger$State" "balance" "[J" : Cond) ∈ wsX7_openAccount := List.mem_of_getElem? (i := 7) rfl
theorem md_X7_openAccount_8 : (.fieldLink RX7 18 "ResourceLedger$State" "sequence" "[J" : Cond) ∈ wsX7_openAccount := List.mem_of_getElem? (i := 8) rfl
def fn_X7_openAccount (F : Nat) (sh : Nat → Nat × Nat) (n : Nat) (z : St) (h0 : Nat) (x0 : Int64) : Option (St × Int32) := grd (okO sh n h0 7) (lt_ (if 255 < (z.1 h0 3) then 255 else (z.1 h0 3)) (fun v_2 => lnk (z.2.2 h0 0) (fun k_3 => grd (okA sh n k_3 102 v_2) (lt_ (sl z k_3 v_2.toNatClampNeg x0) (fun z_6 => lnk (z_6.2.2 h0 1) (fun k_7 => grd (okA sh n k_7 102 v_2) (lt_ (sl z_6 k_7 v_2.toNatClampNeg 0) (fun z_10 => lnk (z_10.2.2 h0 2) (fun k_11 => grd (okA sh n k_11 102 v_2) (lt_ (sl z_10 k_11 v_2.toNatClampNeg 0) (fun z_14 => lt_ (si z_14 h0 3 (v_2 + 1)) (fun z_16 => some (z_16, v_2)))))))))))))
set_option maxHeartbeats 4000000 in
set_option maxRecDepth 100000 in
theorem de_X7_openAccount (l : Launch) (dC : Nat → ClassId) (dI : Nat → Nat → Nat) (cy : Nat → ClassId) (a : Nat → Nat) (sh : Nat → Nat × Nat) (n sz : Nat) (F : Nat) (z : St) (h0 : Nat) (x0 : Int64) {z8 : St} {r8 : Int32} (hf : fn_X7_openAccount F sh n z h0 x0 = some (z8, r8)) : Met l yX7_openAccount wsX7_openAccount ({ frames := 1, cells := 0, slots := 0, locals := 21 }) (va_Pc [.ref (a h0), .long x0] (fun U => U.heap.size = sz ∧ va_P (dC, dI) vwCl (Wd cy a sh n z) U.heap ∧ va_K (dC, dI) vwCl (TYS cy) U ∧ va_D (fun _ => True) (Wd cy a sh n z) ∧ NK U)) (va_Qi (fun (r9 : Int32) (u : Unit) => r9 = r8) (fun u t => va_P (dC, dI) vwCl (Wd cy a sh n z8) t.heap ∧ va_K (dC, dI) vwCl (TYS cy) t ∧ va_D (va_A (Wd cy a sh n z) sz) (Wd cy a sh n z8)) (va_A (Wd cy a sh n z) sz)) 0 0 (va_A (Wd cy a sh n z) sz) := by
  refine Met.ofW (cc := cX7_openAccount) (maxL := 4) (ret := (some .int)) (by decide) rfl ?_
  intro p e s m args below meth c s₁ B hml hv
  obtain ⟨rfl, hsz, hP, hK, hD0, hN⟩ := hv
  have hx := B.exec
  have hb := B.bytes
  have hr := B.returns
  have hts := atoms_spec (ws := wsX7_openAccount) B.pre
  have hown : s.vm.findClass RX7 = some m.cls := findClass_of_methodNamed B.named
  have hlocks := B.notSynchronized
  subst hsz
  have hD := hD0.self (sz := s.heap.size)
  clear hD0
  generalize hAe : va_A (Wd cy a sh n z) s.heap.size = A at hD ⊢
  have hA : ∀ q : Nat, s.heap.size ≤ q → A q := fun q h => by rw [← hAe]; exact Or.inr h
  clear hAe
  have hS : va_S A s.heap s.heap [] := va_S.rf
  have hl := lv_entry ([.ref (a h0), .long x0]) (n := 4) (Nat.le_of_ble_eq_true rfl)
  rw [lg_entry_eq]
  generalize (lg_sl ([.ref (a h0), .long x0]) ++ List.replicate (4 - (lg_sl ([.ref (a h0), .long x0])).length) Slot.unset).toArray = ls at hl ⊢
  replace hl : lv_has ls 4 [(0, .ref (a h0)), (1, .long x0)] := hl
  unfold fn_X7_openAccount at hf
  refine de_start hS hP (fun H locs hS hP => ?_)
  refine lv_aload_n hx hb dX7_openAccount_0 rfl (lv_at hl 0 rfl) ?_
  obtain ⟨g_1, hf⟩ := grd_some hf
  obtain ⟨kg_1, sg_1⟩ := okO_at g_1
  refine va_get (D := (dC, dI)) (ci := 7) (v := .int (z.1 h0 3)) (C := RX7) (T := TX7) (N := 16) hx hb hts iwd_X7_openAccount_X7 hown hK hP h0 (Wd_ob kg_1 sg_1 (by decide)) rfl 3 (by decide) (hts _ md_X7_openAccount_1) (fun _ h9 => h9) (fl_at (t := 0) rfl) dX7_openAccount_1 ?_
  refine lv_sipush (v := 255) hx hb dX7_openAccount_4 (by decide) ?_
  refine va_mmin hx hb (hml.trans hl.1.symm) hown (hts _ md_X7_openAccount_2) (hts _ md_X7_openAccount_3) (hts _ md_X7_openAccount_4) (hts _ md_X7_openAccount_5) (Nat.le_of_ble_eq_true rfl) (Nat.le_of_ble_eq_true rfl) (Nat.le_of_ble_eq_true rfl) (Nat.le_of_ble_eq_true rfl) dX7_openAccount_7 ?_
  refine lv_topi (fun v_2 ev_2 => ?_)
  replace hf := lt_at ev_2 hf
  clear ev_2
  refine lv_istore_n (lv' := [(3, .int v_2), (0, .ref (a h0)), (1, .long x0)]) hx hb dX7_openAccount_10 rfl hl (by decide) rfl (fun ls hl2 => ?_)
  replace hl := hl2
  clear hl2
  refine lv_aload_n hx hb dX7_openAccount_11 rfl (lv_at hl 1 rfl) ?_
  obtain ⟨k_3, ek_3, hf⟩ := lnk_some hf
  refine va_get (D := (dC, dI)) (ci := 7) (v := .ref (a k_3)) (C := RX7) (T := TX7) (N := 16) hx hb hts iwd_X7_openAccount_X7 hown hK hP h0 (Wd_ob kg_1 sg_1 (by decide)) rfl 0 (by decide) (hts _ md_X7_openAccount_6) (fun _ h9 => h9) (fl_q rfl ek_3) dX7_openAccount_12 ?_
  refine lv_iload_n hx hb dX7_openAccount_15 rfl (lv_at hl 0 rfl) ?_
  refine lv_lload_n hx hb dX7_openAccount_16 rfl (lv_at hl 2 rfl) ?_
  obtain ⟨g_4, hf⟩ := grd_some hf
  obtain ⟨kg_4, sg_4, ig_4⟩ := okA_at g_4
  refine va_last hx hb hK hP hD hS k_3 2 (Wd_al kg_4 sg_4) rfl ig_4 dX7_openAccount_17 (fun H_5 locs hP2 hD2 hS2 => ?_)
  rw [Wd_tl sg_4] at hP2 hD2
  obtain ⟨z_6, ez_6⟩ : ∃ w, w = sl z k_3 v_2.toNatClampNeg x0 := ⟨_, rfl⟩
  rw [← ez_6] at hP2 hD2
  replace hf := lt_at ez_6 hf
  clear ez_6
  replace hP := hP2
  replace hD := hD2
  replace hS := hS2
  clear hP2 hD2 hS2
  refine lv_aload_n hx hb dX7_openAccount_18 rfl (lv_at hl 1 rfl) ?_
  obtain ⟨k_7, ek_7, hf⟩ := lnk_some hf
  refine va_get (D := (dC, dI)) (ci := 7) (v := .ref (a k_7)) (C := RX7) (T := TX7) (N := 16) hx hb hts iwd_X7_openAccount_X7 hown hK hP h0 (Wd_ob kg_1 sg_1 (by decide)) rfl 1 (by decide) (hts _ md_X7_openAccount_7) (fun _ h9 => h9) (fl_q rfl ek_7) dX7_openAccount_19 ?_
  refine lv_iload_n hx hb dX7_openAccount_22 rfl (lv_at hl 0 rfl) ?_
  refine lv_lconst (v := 0) hx hb dX7_openAccount_23 (by decide) ?_
  obtain ⟨g_8, hf⟩ := grd_some hf
  obtain ⟨kg_8, sg_8, ig_8⟩ := okA_at g_8
  refine va_last hx hb hK hP hD hS k_7 2 (Wd_al kg_8 sg_8) rfl ig_8 dX7_openAccount_24 (fun H_9 locs hP2 hD2 hS2 => ?_)
  rw [Wd_tl sg_8] at hP2 hD2
  obtain ⟨z_10, ez_10⟩ : ∃ w, w = sl z_6 k_7 v_2.toNatClampNeg 0 := ⟨_, rfl⟩
  rw [← ez_10] at hP2 hD2
  replace hf := lt_at ez_10 hf
  clear ez_10
  replace hP := hP2
  replace hD := hD2
  replace hS := hS2
  clear hP2 hD2 hS2
  refine lv_aload_n hx hb dX7_openAccount_25 rfl (lv_at hl 1 rfl) ?_
  obtain ⟨k_11, ek_11, hf⟩ := lnk_some hf
  refine va_get (D := (dC, dI)) (ci := 7) (v := .ref (a k_11)) (C := RX7) (T := TX7) (N := 16) hx hb hts iwd_X7_openAccount_X7 hown hK hP h0 (Wd_ob kg_1 sg_1 (by decide)) rfl 2 (by decide) (hts _ md_X7_openAccount_8) (fun _ h9 => h9) (fl_q rfl ek_11) dX7_openAccount_26 ?_
  refine lv_iload_n hx hb dX7_openAccount_29 rfl (lv_at hl 0 rfl) ?_
  refine lv_lconst (v := 0) hx hb dX7_openAccount_30 (by decide) ?_
  obtain ⟨g_12, hf⟩ := grd_some hf
  obtain ⟨kg_12, sg_12, ig_12⟩ := okA_at g_12
  refine va_last hx hb hK hP hD hS k_11 2 (Wd_al kg_12 sg_12) rfl ig_12 dX7_openAccount_31 (fun H_13 locs hP2 hD2 hS2 => ?_)
  rw [Wd_tl sg_12] at hP2 hD2
  obtain ⟨z_14, ez_14⟩ : ∃ w, w = sl z_10 k_11 v_2.toNatClampNeg 0 := ⟨_, rfl⟩
  rw [← ez_14] at hP2 hD2
  replace hf := lt_at ez_14 hf
  clear ez_14
  replace hP := hP2
  replace hD := hD2
  replace hS := hS2
  clear hP2 hD2 hS2
  refine lv_aload_n hx hb dX7_openAccount_32 rfl (lv_at hl 1 rfl) ?_
  refine lv_iload_n hx hb dX7_openAccount_33 rfl (lv_at hl 0 rfl) ?_
  refine lv_iconst (v := 1) hx hb dX7_openAccount_34 (by decide) ?_
  refine lv_iadd hx hb dX7_openAccount_35 ?_
  refine va_put (D := (dC, dI)) (ci := 7) (v := .int (v_2 + 1)) (ty := .int) (C := RX7) (T := TX7) (N := 16) hx hb hts iwd_X7_openAccount_X7 tyX7 tyX7_ok nmX7 hown hK hP hD hS h0 (Wd_ob kg_1 sg_1 (by decide)) rfl 3 (by decide) (hts _ md_X7_openAccount_1) (fun _ h9 => h9) rfl (by decide +kernel) rfl rfl (by rw [fl_len]; decide) dX7_openAccount_36 (fun H_15 locs hP2 hD2 hS2 => ?_)
  rw [Wd_si sg_1 (by decide) rfl] at hP2 hD2
  obtain ⟨z_16, ez_16⟩ : ∃ w, w = si z_14 h0 3 (v_2 + 1) := ⟨_, rfl⟩
  rw [← ez_16] at hP2 hD2
  replace hf := lt_at ez_16 hf
  clear ez_16
  replace hP := hP2
  replace hD := hD2
  replace hS := hS2
  clear hP2 hD2 hS2
  refine lv_iload_n hx hb dX7_openAccount_39 rfl (lv_at hl 0 rfl) ?_
  obtain ⟨h8, h9⟩ := ret_some hf
  rw [h8, h9]
  exact W.iret (v := v_2) hx hb hr (fun t ht hW => ⟨⟨v_2, (), rfl, rfl, by rw [ht]; exact hP, va_K.moved hW.alike hK, hD⟩, hS.F ht⟩) hS.2.2 dX7_openAccount_40

theorem md_X11_mint_1 : (.constantLong RX11 84 (4611686018427387904) : Cond) ∈ wsX11_mint := List.mem_of_getElem? (i := 1) rfl
theorem md_X11_mint_2 : (.fieldLink RX11 22 "ResourceLedger" "state" "LResourceLedger$State;" : Cond) ∈ wsX11_mint := List.mem_of_getElem? (i := 2) rfl
theorem iwd_X11_mint_X11 : ∀ w ∈ wsX110, w ∈ wsX11_mint := fun _ h => List.mem_cons_of_mem _ (List.mem_append_left _ (List.mem_append_left _ (List.mem_append_right _ h)))
theorem md_X11_mint_3 : (.fieldLink RX11 86 "ResourceLedger$State" "minted" "J" : Cond) ∈ wsX11_mint := List.mem_of_getElem? (i := 3) rfl
theorem iwd_X11_mint_X7 : ∀ w ∈ wsX70, w ∈ wsX11_mint := fun _ h => List.mem_cons_of_mem _ (List.mem_append_left _ (List.mem_append_right _ h))
theorem md_X11_mint_4 : (.fieldLink RX11 90 "ResourceLedger$State" "burned" "J" : Cond) ∈ wsX11_mint := List.mem_of_getElem? (i := 4) rfl
theorem md_X11_mint_5 : (.fieldLink RX11 104 "ResourceLedger$State" "balance" "[J" : Cond) ∈ wsX11_mint := List.mem_of_getElem? (i := 5) rfl
theorem md_X11_mint_6 : (.fieldLink RX11 43 "ResourceLedger" "tree" "LResourceLedger$Tree;" : Cond) ∈ wsX11_mint := List.mem_of_getElem? (i := 6) rfl
theorem md_X11_mint_7 : (.fieldLink RX11 108 "ResourceLedger$Tree" "stale" "Z" : Cond) ∈ wsX11_mint := List.mem_of_getElem? (i := 7) rfl
theorem iwd_X11_mint_X9 : ∀ w ∈ wsX90, w ∈ wsX11_mint := fun _ h => List.mem_cons_of_mem _ (List.mem_append_right _ h)
def fn_X11_mint_B72 (F : Nat) (sh : Nat → Nat × Nat) (n : Nat) (h0 : Nat) (x1 : Int64) (z_14 : St) (p_13 : Int32) : Option (St × Int32) := lnk (z_14.2.2 h0 6) (fun k_15 => grd (okO sh n k_15 7) (lnk (z_14.2.2 k_15 1) (fun k_17 => grd (okA sh n k_17 102 p_13) (grd (okA sh n k_17 102 p_13) (lt_ (sl z_14 k_17 p_13.toNatClampNeg ((z_14.2.1 k_17 p_13.toNatClampNeg) + x1)) (fun z_21 => lnk (z_21.2.2 h0 6) (fun k_22 => grd (okO sh n k_22 7) (lt_ (sl z_21 k_22 14 ((z_21.2.1 k_22 14) + x1)) (fun z_25 => lnk (z_25.2.2 h0 10) (fun k_26 => grd (okO sh n k_26 9) (lt_ (si z_25 k_26 1 1) (fun z_29 => some (z_29, 1)))))))))))))
theorem fn_X11_mint_B72_s {F : Nat} {sh : Nat → Nat × Nat} {n : Nat} {h0 : Nat} {x1 : Int64} {z_14 : St} {p_13 : Int32} {y : St × Int32} (h : fn_X11_mint_B72 F sh n h0 x1 z_14 p_13 = some y) : (lnk (z_14.2.2 h0 6) (fun k_15 => grd (okO sh n k_15 7) (lnk (z_14.2.2 k_15 1) (fun k_17 => grd (okA sh n k_17 102 p_13) (grd (okA sh n k_17 102 p_13) (lt_ (sl z_14 k_17 p_13.toNatClampNeg ((z_14.2.1 k_17 p_13.toNatClampNeg) + x1)) (fun z_21 => lnk (z_21.2.2 h0 6) (fun k_22 => grd (okO sh n k_22 7) (lt_ (sl z_21 k_22 14 ((z_21.2.1 k_22 14) + x1)) (fun z_25 => lnk (z_25.2.2 h0 10) (fun k_26 => grd (okO sh n k_26 9) (lt_ (si z_25 k_26 1 1) (fun z_29 => some (z_29, 1)))))))))))))) = some y := h
def fn_X11_mint (F : Nat) (sh : Nat → Nat × Nat) (n : Nat) (z : St) (h0 : Nat) (x0 : Int64) (x1 : Int64) : Option (St × Int32) := if (x1 : Int64) < 0 then some (z, 0) else grd (okO sh n h0 11) (lnk (z.2.2 h0 6) (fun k_3 => grd (okO sh n k_3 7) (lnk (z.2.2 h0 6) (fun k_5 => grd (okO sh n k_5 7) (if (x1 : Int64) < (4611686018427387904 - ((z.2.1 k_3 14) - (z.2.1 k_5 15))) then lnk (z.2.2 h0 6) (fun k_8 => grd (okO sh n k_8 7) (cal (fn_X7_findAccount F sh n z k_8 x0) (fun z_9 r_10 => if (0 : Int32) ≤ r_10 then fn_X11_mint_B72 F sh n h0 x1 z_9 r_10 else lnk (z_9.2.2 h0 6) (fun k_31 => grd (okO sh n k_31 7) (cal (fn_X7_placeCount F sh n z_9 k_31) (fun z_32 r_33 => if (r_33 : Int32) < 256 then lnk (z_32.2.2 h0 6) (fun k_37 => grd (okO sh n k_37 7) (cal (fn_X7_openAccount F sh n z_32 k_37 x0) (fun z_38 r_39 => fn_X11_mint_B72 F sh n h0 x1 z_38 r_39))) else some (z_32, 0))))))) else some (z, 0))))))
set_option maxHeartbeats 4000000 in
set_option maxRecDepth 100000 in
theorem de_X11_mint (l : Launch) (dC : Nat → ClassId) (dI : Nat → Nat → Nat) (cy : Nat → ClassId) (a : Nat → Nat) (sh : Nat → Nat × Nat) (n sz : Nat) (F : Nat) (z : St) (h0 : Nat) (x0 : Int64) (x1 : Int64) {z8 : St} {r8 : Int32} (hf : fn_X11_mint F sh n z h0 x0 x1 = some (z8, r8)) : Met l yX11_mint wsX11_mint ({ frames := 2, cells := 0, slots := 0, locals := 44 }) (va_Pc [.ref (a h0), .long x0, .long x1] (fun U => U.heap.size = sz ∧ va_P (dC, dI) vwCl (Wd cy a sh n z) U.heap ∧ va_K (dC, dI) vwCl (TYS cy) U ∧ va_D (fun _ => True) (Wd cy a sh n z) ∧ NK U)) (va_Qi (fun (r9 : Int32) (u : Unit) => r9 = r8) (fun u t => va_P (dC, dI) vwCl (Wd cy a sh n z8) t.heap ∧ va_K (dC, dI) vwCl (TYS cy) t ∧ va_D (va_A (Wd cy a sh n z) sz) (Wd cy a sh n z8)) (va_A (Wd cy a sh n z) sz)) 0 0 (va_A (Wd cy a sh n z) sz) := by
  refine Met.ofW (cc := cX11_mint) (maxL := 6) (ret := (some .boolean)) (by decide) rfl ?_
  intro p e s m args below meth c s₁ B hml hv
  obtain ⟨rfl, hsz, hP, hK, hD0, hN⟩ := hv
  have hx := B.exec
  have hb := B.bytes
  have hr := B.returns
  have hts := atoms_spec (ws := wsX11_mint) B.pre
  have hown : s.vm.findClass RX11 = some m.cls := findClass_of_methodNamed B.named
  have hlocks := B.notSynchronized
  subst hsz
  have hD := hD0.self (sz := s.heap.size)
  clear hD0
  generalize hAe : va_A (Wd cy a sh n z) s.heap.size = A at hD ⊢
  have hA : ∀ q : Nat, s.heap.size ≤ q → A q := fun q h => by rw [← hAe]; exact Or.inr h
  clear hAe
  have hS : va_S A s.heap s.heap [] := va_S.rf
  have hl := lv_entry ([.ref (a h0), .long x0, .long x1]) (n := 6) (Nat.le_of_ble_eq_true rfl)
  rw [lg_entry_eq]
  generalize (lg_sl ([.ref (a h0), .long x0, .long x1]) ++ List.replicate (6 - (lg_sl ([.ref (a h0), .long x0, .long x1])).length) Slot.unset).toArray = ls at hl ⊢
  replace hl : lv_has ls 6 [(0, .ref (a h0)), (1, .long x0), (3, .long x1)] := hl
  unfold fn_X11_mint at hf
  refine de_start hS hP (fun H locs hS hP => ?_)
  refine lv_lload_n hx hb dX11_mint_0 rfl (lv_at hl 2 rfl) ?_
  refine lv_lconst (v := 0) hx hb dX11_mint_1 (by decide) ?_
  refine W.lcmp hx hb dX11_mint_2 ?_
  refine lv_if_lt (tgt := 30) hx hb dX11_mint_3 (by decide) (fun c_1 => ?_) (fun c_1 => ?_)
  · skip
    rw [lg_cmp_lt] at c_1
    rw [if_pos c_1] at hf
    refine lv_iconst (v := 0) hx hb dX11_mint_30 (by decide) ?_
    obtain ⟨h8, h9⟩ := ret_some hf
    rw [h8, h9]
    exact W.zret (v := 0) hx hb hr rfl (fun t ht hW => ⟨⟨0, (), rfl, rfl, by rw [ht]; exact hP, va_K.moved hW.alike hK, hD⟩, hS.F ht⟩) hS.2.2 dX11_mint_31
  · skip
    rw [lg_cmp_lt] at c_1
    rw [if_neg c_1] at hf
    refine lv_lload_n hx hb dX11_mint_6 rfl (lv_at hl 2 rfl) ?_
    refine lv_ldc2 hx hb hown (hts _ md_X11_mint_1) dX11_mint_7 ?_
    refine lv_aload_n hx hb dX11_mint_10 rfl (lv_at hl 0 rfl) ?_
    obtain ⟨g_2, hf⟩ := grd_some hf
    obtain ⟨kg_2, sg_2⟩ := okO_at g_2
    obtain ⟨k_3, ek_3, hf⟩ := lnk_some hf
    refine va_get (D := (dC, dI)) (ci := 11) (v := .ref (a k_3)) (C := RX11) (T := TX11) (N := 13) hx hb hts iwd_X11_mint_X11 hown hK hP h0 (Wd_ob kg_2 sg_2 (by decide)) rfl 6 (by decide) (hts _ md_X11_mint_2) (fun _ h9 => h9) (fl_q rfl ek_3) dX11_mint_11 ?_
    obtain ⟨g_4, hf⟩ := grd_some hf
    obtain ⟨kg_4, sg_4⟩ := okO_at g_4
    refine va_get (D := (dC, dI)) (ci := 7) (v := .long (z.2.1 k_3 14)) (C := RX7) (T := TX7) (N := 16) hx hb hts iwd_X11_mint_X7 hown hK hP k_3 (Wd_ob kg_4 sg_4 (by decide)) rfl 14 (by decide) (hts _ md_X11_mint_3) (fun _ h9 => h9) (fl_at (t := 1) rfl) dX11_mint_14 ?_
    refine lv_aload_n hx hb dX11_mint_17 rfl (lv_at hl 0 rfl) ?_
    obtain ⟨k_5, ek_5, hf⟩ := lnk_some hf
    refine va_get (D := (dC, dI)) (ci := 11) (v := .ref (a k_5)) (C := RX11) (T := TX11) (N := 13) hx hb hts iwd_X11_mint_X11 hown hK hP h0 (Wd_ob kg_2 sg_2 (by decide)) rfl 6 (by decide) (hts _ md_X11_mint_2) (fun _ h9 => h9) (fl_q rfl ek_5) dX11_mint_18 ?_
    obtain ⟨g_6, hf⟩ := grd_some hf
    obtain ⟨kg_6, sg_6⟩ := okO_at g_6
    refine va_get (D := (dC, dI)) (ci := 7) (v := .long (z.2.1 k_5 15)) (C := RX7) (T := TX7) (N := 16) hx hb hts iwd_X11_mint_X7 hown hK hP k_5 (Wd_ob kg_6 sg_6 (by decide)) rfl 15 (by decide) (hts _ md_X11_mint_4) (fun _ h9 => h9) (fl_at (t := 1) rfl) dX11_mint_21 ?_
    refine lv_lsub hx hb dX11_mint_24 ?_
    refine lv_lsub hx hb dX11_mint_25 ?_
    refine W.lcmp hx hb dX11_mint_26 ?_
    refine lv_if_lt (tgt := 32) hx hb dX11_mint_27 (by decide) (fun c_7 => ?_) (fun c_7 => ?_)
    · skip
      rw [lg_cmp_lt] at c_7
      rw [if_pos c_7] at hf
      refine lv_aload_n hx hb dX11_mint_32 rfl (lv_at hl 0 rfl) ?_
      obtain ⟨k_8, ek_8, hf⟩ := lnk_some hf
      refine va_get (D := (dC, dI)) (ci := 11) (v := .ref (a k_8)) (C := RX11) (T := TX11) (N := 13) hx hb hts iwd_X11_mint_X11 hown hK hP h0 (Wd_ob kg_2 sg_2 (by decide)) rfl 6 (by decide) (hts _ md_X11_mint_2) (fun _ h9 => h9) (fl_q rfl ek_8) dX11_mint_33 ?_
      refine lv_lload_n hx hb dX11_mint_36 rfl (lv_at hl 1 rfl) ?_
      obtain ⟨g_11, hf⟩ := grd_some hf
      obtain ⟨kg_11, sg_11⟩ := okO_at g_11
      obtain ⟨z_9, r_10, hfc, hf⟩ := cal_some hf
      have hFc := de_free hD hS hA
      refine va_calli (va_runV (As := [.long x0]) (rest := []) ⟨hx, hb, hml, hown, hts⟩ (de_X7_findAccount l dC dI cy a sh n H.size F z k_8 x0 hfc) (cwV 1 hts gX11_mint_X7_findAccount rfl rfl rfl (by decide +kernel) ⟨Nat.le_of_ble_eq_true rfl, Nat.le_of_ble_eq_true rfl⟩) ⟨fun a U g mk q => by obtain ⟨q0, q1, qP, qK, qD, qN⟩ := q; exact ⟨q0, q1, qP, va_K.moved (u := U) (U := U.calling g mk a) (Vm.Alike.refl U.vm) qK, qD, qN.same rfl⟩, va_recv hK hP (ci := 7) (q0 := k_8) rfl (Wd_ob kg_11 sg_11 (by decide)), fun U hU hW => ⟨rfl, by rw [hU], by rw [hU]; exact hP, va_K.moved hW.alike hK, hD.weaken (fun _ _ _ _ => trivial), hN.warm hW⟩⟩ rfl rfl hl.1 rfl (lv_room (Nat.le_of_ble_eq_true rfl)) dX11_mint_37 ⟨Nat.le_of_ble_eq_true rfl, Nat.le_of_ble_eq_true rfl⟩) hS (fun q _ h => hFc q h) hFc (fun rr u t H_12 locs ht hvm hw hB hz1 hk1 hS2 => ?_)
      rw [hw]
      clear hw
      obtain ⟨hP1, -, hD1⟩ := hB
      rw [ht] at hP1
      replace hD := hD1.weaken (fun _ _ _ h => hFc _ h)
      replace hP := hP1
      replace hS := hS2
      clear hP1 hD1 hS2 hFc hfc hz1 hk1 hvm ht
      refine lv_istore (lv' := [(5, .int r_10), (0, .ref (a h0)), (1, .long x0), (3, .long x1)]) hx hb dX11_mint_40 hl (by decide) rfl (fun ls hl2 => ?_)
      replace hl := hl2
      clear hl2
      refine lv_iload hx hb dX11_mint_42 (lv_at hl 0 rfl) ?_
      refine de_cut (h := 72) (fun (x : St × Int32) => []) (fun x ls H locs => lv_has ls 6 [(5, .int x.2), (0, .ref (a h0)), (3, .long x1)] ∧ va_P (dC, dI) vwCl (Wd cy a sh n x.1) H ∧ va_D A (Wd cy a sh n x.1) ∧ va_S A s.heap H locs) (fun x => fn_X11_mint_B72 F sh n h0 x1 x.1 x.2) (z8, r8) ?_ (fun B72 => ?_)
      · intro x ls H locs hI hf
        obtain ⟨z_14, p_13⟩ := x
        obtain ⟨hl2, hP2, hD2, hS2⟩ := hI
        replace hl : lv_has ls 6 [(5, .int p_13), (0, .ref (a h0)), (3, .long x1)] := hl2
        replace hP := hP2
        replace hD := hD2
        replace hS := hS2
        clear hl2 hP2 hD2 hS2
        replace hf := fn_X11_mint_B72_s hf
        refine W.eq (g2 := F0 m 72 ls []) rfl ?_
        refine lv_aload_n hx hb dX11_mint_72 rfl (lv_at hl 1 rfl) ?_
        obtain ⟨k_15, ek_15, hf⟩ := lnk_some hf
        refine va_get (D := (dC, dI)) (ci := 11) (v := .ref (a k_15)) (C := RX11) (T := TX11) (N := 13) hx hb hts iwd_X11_mint_X11 hown hK hP h0 (Wd_ob kg_2 sg_2 (by decide)) rfl 6 (by decide) (hts _ md_X11_mint_2) (fun _ h9 => h9) (fl_q rfl ek_15) dX11_mint_73 ?_
        obtain ⟨g_16, hf⟩ := grd_some hf
        obtain ⟨kg_16, sg_16⟩ := okO_at g_16
        obtain ⟨k_17, ek_17, hf⟩ := lnk_some hf
        refine va_get (D := (dC, dI)) (ci := 7) (v := .ref (a k_17)) (C := RX7) (T := TX7) (N := 16) hx hb hts iwd_X11_mint_X7 hown hK hP k_15 (Wd_ob kg_16 sg_16 (by decide)) rfl 1 (by decide) (hts _ md_X11_mint_5) (fun _ h9 => h9) (fl_q rfl ek_17) dX11_mint_76 ?_
        refine lv_iload hx hb dX11_mint_79 (lv_at hl 0 rfl) ?_
        refine lv_dup2_11 hx hb dX11_mint_81 rfl rfl ?_
        obtain ⟨g_18, hf⟩ := grd_some hf
        obtain ⟨kg_18, sg_18, ig_18⟩ := okA_at g_18
        refine va_lald hx hb hK hP k_17 2 (Wd_al kg_18 sg_18) rfl ig_18 dX11_mint_82 ?_
        refine lv_lload_n hx hb dX11_mint_83 rfl (lv_at hl 2 rfl) ?_
        refine lv_ladd hx hb dX11_mint_84 ?_
        obtain ⟨g_19, hf⟩ := grd_some hf
        obtain ⟨kg_19, sg_19, ig_19⟩ := okA_at g_19
        refine va_last hx hb hK hP hD hS k_17 2 (Wd_al kg_19 sg_19) rfl ig_19 dX11_mint_85 (fun H_20 locs hP2 hD2 hS2 => ?_)
        rw [Wd_tl sg_19] at hP2 hD2
        obtain ⟨z_21, ez_21⟩ : ∃ w, w = sl z_14 k_17 p_13.toNatClampNeg ((z_14.2.1 k_17 p_13.toNatClampNeg) + x1) := ⟨_, rfl⟩
        rw [← ez_21] at hP2 hD2
        replace hf := lt_at ez_21 hf
        clear ez_21
        replace hP := hP2
        replace hD := hD2
        replace hS := hS2
        clear hP2 hD2 hS2
        refine lv_aload_n hx hb dX11_mint_86 rfl (lv_at hl 1 rfl) ?_
        obtain ⟨k_22, ek_22, hf⟩ := lnk_some hf
        refine va_get (D := (dC, dI)) (ci := 11) (v := .ref (a k_22)) (C := RX11) (T := TX11) (N := 13) hx hb hts iwd_X11_mint_X11 hown hK hP h0 (Wd_ob kg_2 sg_2 (by decide)) rfl 6 (by decide) (hts _ md_X11_mint_2) (fun _ h9 => h9) (fl_q rfl ek_22) dX11_mint_87 ?_
        refine lv_dup hx hb dX11_mint_90 rfl ?_
        obtain ⟨g_23, hf⟩ := grd_some hf
        obtain ⟨kg_23, sg_23⟩ := okO_at g_23
        refine va_get (D := (dC, dI)) (ci := 7) (v := .long (z_21.2.1 k_22 14)) (C := RX7) (T := TX7) (N := 16) hx hb hts iwd_X11_mint_X7 hown hK hP k_22 (Wd_ob kg_23 sg_23 (by decide)) rfl 14 (by decide) (hts _ md_X11_mint_3) (fun _ h9 => h9) (fl_at (t := 1) rfl) dX11_mint_91 ?_
        refine lv_lload_n hx hb dX11_mint_94 rfl (lv_at hl 2 rfl) ?_
        refine lv_ladd hx hb dX11_mint_95 ?_
        refine va_put (D := (dC, dI)) (ci := 7) (v := .long ((z_21.2.1 k_22 14) + x1)) (ty := .long) (C := RX7) (T := TX7) (N := 16) hx hb hts iwd_X11_mint_X7 tyX7 tyX7_ok nmX7 hown hK hP hD hS k_22 (Wd_ob kg_23 sg_23 (by decide)) rfl 14 (by decide) (hts _ md_X11_mint_3) (fun _ h9 => h9) rfl (by decide +kernel) rfl rfl (by rw [fl_len]; decide) dX11_mint_96 (fun H_24 locs hP2 hD2 hS2 => ?_)
        rw [Wd_sl sg_23 (by decide) rfl] at hP2 hD2
        obtain ⟨z_25, ez_25⟩ : ∃ w, w = sl z_21 k_22 14 ((z_21.2.1 k_22 14) + x1) := ⟨_, rfl⟩
        rw [← ez_25] at hP2 hD2
        replace hf := lt_at ez_25 hf
        clear ez_25
        replace hP := hP2
        replace hD := hD2
        replace hS := hS2
        clear hP2 hD2 hS2
        refine lv_aload_n hx hb dX11_mint_99 rfl (lv_at hl 1 rfl) ?_
        obtain ⟨k_26, ek_26, hf⟩ := lnk_some hf
        refine va_get (D := (dC, dI)) (ci := 11) (v := .ref (a k_26)) (C := RX11) (T := TX11) (N := 13) hx hb hts iwd_X11_mint_X11 hown hK hP h0 (Wd_ob kg_2 sg_2 (by decide)) rfl 10 (by decide) (hts _ md_X11_mint_6) (fun _ h9 => h9) (fl_q rfl ek_26) dX11_mint_100 ?_
        refine lv_iconst (v := 1) hx hb dX11_mint_103 (by decide) ?_
        obtain ⟨g_27, hf⟩ := grd_some hf
        obtain ⟨kg_27, sg_27⟩ := okO_at g_27
        refine va_put (D := (dC, dI)) (ci := 9) (v := .int 1) (ty := .boolean) (C := RX9) (T := TX9) (N := 13) hx hb hts iwd_X11_mint_X9 tyX9 tyX9_ok nmX9 hown hK hP hD hS k_26 (Wd_ob kg_27 sg_27 (by decide)) rfl 1 (by decide) (hts _ md_X11_mint_7) (fun _ h9 => h9) rfl (by decide +kernel) rfl rfl (by rw [fl_len]; decide) dX11_mint_104 (fun H_28 locs hP2 hD2 hS2 => ?_)
        rw [Wd_si sg_27 (by decide) rfl] at hP2 hD2
        obtain ⟨z_29, ez_29⟩ : ∃ w, w = si z_25 k_26 1 1 := ⟨_, rfl⟩
        rw [← ez_29] at hP2 hD2
        replace hf := lt_at ez_29 hf
        clear ez_29
        replace hP := hP2
        replace hD := hD2
        replace hS := hS2
        clear hP2 hD2 hS2
        refine lv_iconst (v := 1) hx hb dX11_mint_107 (by decide) ?_
        obtain ⟨h8, h9⟩ := ret_some hf
        rw [h8, h9]
        exact W.zret (v := 1) hx hb hr rfl (fun t ht hW => ⟨⟨1, (), rfl, rfl, by rw [ht]; exact hP, va_K.moved hW.alike hK, hD⟩, hS.F ht⟩) hS.2.2 dX11_mint_108
      refine lv_if_ge (tgt := 72) hx hb dX11_mint_44 (by decide) (fun c_30 => ?_) (fun c_30 => ?_)
      · skip
        rw [if_pos c_30] at hf
        exact B72 (z_9, r_10) ls H_12 locs ⟨lv_sub hl [0, 1, 3] rfl, hP, hD, hS⟩ hf
      · skip
        rw [if_neg c_30] at hf
        refine lv_aload_n hx hb dX11_mint_47 rfl (lv_at hl 1 rfl) ?_
        obtain ⟨k_31, ek_31, hf⟩ := lnk_some hf
        refine va_get (D := (dC, dI)) (ci := 11) (v := .ref (a k_31)) (C := RX11) (T := TX11) (N := 13) hx hb hts iwd_X11_mint_X11 hown hK hP h0 (Wd_ob kg_2 sg_2 (by decide)) rfl 6 (by decide) (hts _ md_X11_mint_2) (fun _ h9 => h9) (fl_q rfl ek_31) dX11_mint_48 ?_
        obtain ⟨g_34, hf⟩ := grd_some hf
        obtain ⟨kg_34, sg_34⟩ := okO_at g_34
        obtain ⟨z_32, r_33, hfc, hf⟩ := cal_some hf
        have hFc := de_free hD hS hA
        refine va_calli (va_runV (As := []) (rest := []) ⟨hx, hb, hml, hown, hts⟩ (de_X7_placeCount l dC dI cy a sh n H_12.size F z_9 k_31 hfc) (cwV 0 hts gX11_mint_X7_placeCount rfl rfl rfl (by decide +kernel) ⟨Nat.le_of_ble_eq_true rfl, Nat.le_of_ble_eq_true rfl⟩) ⟨fun a U g mk q => by obtain ⟨q0, q1, qP, qK, qD, qN⟩ := q; exact ⟨q0, q1, qP, va_K.moved (u := U) (U := U.calling g mk a) (Vm.Alike.refl U.vm) qK, qD, qN.same rfl⟩, va_recv hK hP (ci := 7) (q0 := k_31) rfl (Wd_ob kg_34 sg_34 (by decide)), fun U hU hW => ⟨rfl, by rw [hU], by rw [hU]; exact hP, va_K.moved hW.alike hK, hD.weaken (fun _ _ _ _ => trivial), hN.warm hW⟩⟩ rfl rfl hl.1 rfl (lv_room (Nat.le_of_ble_eq_true rfl)) dX11_mint_51 ⟨Nat.le_of_ble_eq_true rfl, Nat.le_of_ble_eq_true rfl⟩) hS (fun q _ h => hFc q h) hFc (fun rr u t H_35 locs ht hvm hw hB hz1 hk1 hS2 => ?_)
        rw [hw]
        clear hw
        obtain ⟨hP1, -, hD1⟩ := hB
        rw [ht] at hP1
        replace hD := hD1.weaken (fun _ _ _ h => hFc _ h)
        replace hP := hP1
        replace hS := hS2
        clear hP1 hD1 hS2 hFc hfc hz1 hk1 hvm ht
        refine lv_sipush (v := 256) hx hb dX11_mint_54 (by decide) ?_
        refine lv_icmp_lt (tgt := 62) hx hb dX11_mint_57 (by decide) (fun c_36 => ?_) (fun c_36 => ?_)
        · skip
          rw [if_pos c_36] at hf
          refine lv_aload_n hx hb dX11_mint_62 rfl (lv_at hl 1 rfl) ?_
          obtain ⟨k_37, ek_37, hf⟩ := lnk_some hf
          refine va_get (D := (dC, dI)) (ci := 11) (v := .ref (a k_37)) (C := RX11) (T := TX11) (N := 13) hx hb hts iwd_X11_mint_X11 hown hK hP h0 (Wd_ob kg_2 sg_2 (by decide)) rfl 6 (by decide) (hts _ md_X11_mint_2) (fun _ h9 => h9) (fl_q rfl ek_37) dX11_mint_63 ?_
          refine lv_lload_n hx hb dX11_mint_66 rfl (lv_at hl 2 rfl) ?_
          obtain ⟨g_40, hf⟩ := grd_some hf
          obtain ⟨kg_40, sg_40⟩ := okO_at g_40
          obtain ⟨z_38, r_39, hfc, hf⟩ := cal_some hf
          have hFc := de_free hD hS hA
          refine va_calli (va_runV (As := [.long x0]) (rest := []) ⟨hx, hb, hml, hown, hts⟩ (de_X7_openAccount l dC dI cy a sh n H_35.size F z_32 k_37 x0 hfc) (cwV 1 hts gX11_mint_X7_openAccount rfl rfl rfl (by decide +kernel) ⟨Nat.le_of_ble_eq_true rfl, Nat.le_of_ble_eq_true rfl⟩) ⟨fun a U g mk q => by obtain ⟨q0, q1, qP, qK, qD, qN⟩ := q; exact ⟨q0, q1, qP, va_K.moved (u := U) (U := U.calling g mk a) (Vm.Alike.refl U.vm) qK, qD, qN.same rfl⟩, va_recv hK hP (ci := 7) (q0 := k_37) rfl (Wd_ob kg_40 sg_40 (by decide)), fun U hU hW => ⟨rfl, by rw [hU], by rw [hU]; exact hP, va_K.moved hW.alike hK, hD.weaken (fun _ _ _ _ => trivial), hN.warm hW⟩⟩ rfl rfl hl.1 rfl (lv_room (Nat.le_of_ble_eq_true rfl)) dX11_mint_67 ⟨Nat.le_of_ble_eq_true rfl, Nat.le_of_ble_eq_true rfl⟩) hS (fun q _ h => hFc q h) hFc (fun rr u t H_41 locs ht hvm hw hB hz1 hk1 hS2 => ?_)
          rw [hw]
          clear hw
          obtain ⟨hP1, -, hD1⟩ := hB
          rw [ht] at hP1
          replace hD := hD1.weaken (fun _ _ _ h => hFc _ h)
          replace hP := hP1
          replace hS := hS2
          clear hP1 hD1 hS2 hFc hfc hz1 hk1 hvm ht
          refine lv_istore (lv' := [(5, .int r_39), (0, .ref (a h0)), (1, .long x0), (3, .long x1)]) hx hb dX11_mint_70 hl (by decide) rfl (fun ls hl2 => ?_)
          replace hl := hl2
          clear hl2
          exact B72 (z_38, r_39) ls H_41 locs ⟨lv_sub hl [0, 1, 3] rfl, hP, hD, hS⟩ hf
        · skip
          rw [if_neg c_36] at hf
          refine lv_iconst (v := 0) hx hb dX11_mint_60 (by decide) ?_
          obtain ⟨h8, h9⟩ := ret_some hf
          rw [h8, h9]
          exact W.zret (v := 0) hx hb hr rfl (fun t ht hW => ⟨⟨0, (), rfl, rfl, by rw [ht]; exact hP, va_K.moved hW.alike hK, hD⟩, hS.F ht⟩) hS.2.2 dX11_mint_61
    · skip
      rw [lg_cmp_lt] at c_7
      rw [if_neg c_7] at hf
      refine lv_iconst (v := 0) hx hb dX11_mint_30 (by decide) ?_
      obtain ⟨h8, h9⟩ := ret_some hf
      rw [h8, h9]
      exact W.zret (v := 0) hx hb hr rfl (fun t ht hW => ⟨⟨0, (), rfl, rfl, by rw [ht]; exact hP, va_K.moved hW.alike hK, hD⟩, hS.F ht⟩) hS.2.2 dX11_mint_31

theorem md_X18_placeCount_1 : (.fieldLink RX18 1 "ResourceLedgerModel" "accounts" "I" : Cond) ∈ wsX18_placeCount := List.mem_of_getElem? (i := 1) rfl
theorem iwd_X18_placeCount_X18 : ∀ w ∈ wsX180, w ∈ wsX18_placeCount := fun _ h => List.mem_cons_of_mem _ (List.mem_append_right _ h)
theorem md_X18_placeCount_2 : (.fieldLink RX18 7 "ResourceLedgerModel" "modules" "I" : Cond) ∈ wsX18_placeCount := List.mem_of_getElem? (i := 2) rfl
theorem md_X18_placeCount_3 : (.fieldLink RX18 10 "ResourceLedgerModel" "resources" "I" : Cond) ∈ wsX18_placeCount := List.mem_of_getElem? (i := 3) rfl
def fn_X18_placeCount (F : Nat) (sh : Nat → Nat × Nat) (n : Nat) (z : St) (h0 : Nat) : Option (St × Int32) := grd (okO sh n h0 18) (some (z, (((z.1 h0 3) + (z.1 h0 5)) + (z.1 h0 9))))
set_option maxHeartbeats 4000000 in
set_option maxRecDepth 100000 in
theorem de_X18_placeCount (l : Launch) (dC : Nat → ClassId) (dI : Nat → Nat → Nat) (cy : Nat → ClassId) (a : Nat → Nat) (sh : Nat → Nat × Nat) (n sz : Nat) (F : Nat) (z : St) (h0 : Nat) {z8 : St} {r8 : Int32} (hf : fn_X18_placeCount F sh n z h0 = some (z8, r8)) : Met l yX18_placeCount wsX18_placeCount ({ frames := 0, cells := 0, slots := 0, locals := 0 }) (va_Pc [.ref (a h0)] (fun U => U.heap.size = sz ∧ va_P (dC, dI) vwCl (Wd cy a sh n z) U.heap ∧ va_K (dC, dI) vwCl (TYS cy) U ∧ va_D (fun _ => True) (Wd cy a sh n z) ∧ NK U)) (va_Qi (fun (r9 : Int32) (u : Unit) => r9 = r8) (fun u t => va_P (dC, dI) vwCl (Wd cy a sh n z8) t.heap ∧ va_K (dC, dI) vwCl (TYS cy) t ∧ va_D (va_A (Wd cy a sh n z) sz) (Wd cy a sh n z8)) (va_A (Wd cy a sh n z) sz)) 0 0 (va_A (Wd cy a sh n z) sz) := by
  refine Met.ofW (cc := cX18_placeCount) (maxL := 1) (ret := (some .int)) (by decide) rfl ?_
  intro p e s m args below meth c s₁ B hml hv
  obtain ⟨rfl, hsz, hP, hK, hD0, hN⟩ := hv
  have hx := B.exec
  have hb := B.bytes
  have hr := B.returns
  have hts := atoms_spec (ws := wsX18_placeCount) B.pre
  have hown : s.vm.findClass RX18 = some m.cls := findClass_of_methodNamed B.named
  have hlocks := B.notSynchronized
  subst hsz
  have hD := hD0.self (sz := s.heap.size)
  clear hD0
  generalize hAe : va_A (Wd cy a sh n z) s.heap.size = A at hD ⊢
  have hA : ∀ q : Nat, s.heap.size ≤ q → A q := fun q h => by rw [← hAe]; exact Or.inr h
  clear hAe
  have hS : va_S A s.heap s.heap [] := va_S.rf
  have hl := lv_entry ([.ref (a h0)]) (n := 1) (Nat.le_of_ble_eq_true rfl)
  rw [lg_entry_eq]
  generalize (lg_sl ([.ref (a h0)]) ++ List.replicate (1 - (lg_sl ([.ref (a h0)])).length) Slot.unset).toArray = ls at hl ⊢
  replace hl : lv_has ls 1 [(0, .ref (a h0))] := hl
  unfold fn_X18_placeCount at hf
  refine de_start hS hP (fun H locs hS hP => ?_)
  refine lv_aload_n hx hb dX18_placeCount_0 rfl (lv_at hl 0 rfl) ?_
  obtain ⟨g_1, hf⟩ := grd_some hf
  obtain ⟨kg_1, sg_1⟩ := okO_at g_1
  refine va_get (D := (dC, dI)) (ci := 18) (v := .int (z.1 h0 3)) (C := RX18) (T := TX18) (N := 78) hx hb hts iwd_X18_placeCount_X18 hown hK hP h0 (Wd_ob kg_1 sg_1 (by decide)) rfl 3 (by decide) (hts _ md_X18_placeCount_1) (fun _ h9 => h9) (fl_at (t := 0) rfl) dX18_placeCount_1 ?_
  refine lv_aload_n hx hb dX18_placeCount_4 rfl (lv_at hl 0 rfl) ?_
  refine va_get (D := (dC, dI)) (ci := 18) (v := .int (z.1 h0 5)) (C := RX18) (T := TX18) (N := 78) hx hb hts iwd_X18_placeCount_X18 hown hK hP h0 (Wd_ob kg_1 sg_1 (by decide)) rfl 5 (by decide) (hts _ md_X18_placeCount_2) (fun _ h9 => h9) (fl_at (t := 0) rfl) dX18_placeCount_5 ?_
  refine lv_iadd hx hb dX18_placeCount_8 ?_
  refine lv_aload_n hx hb dX18_placeCount_9 rfl (lv_at hl 0 rfl) ?_
  refine va_get (D := (dC, dI)) (ci := 18) (v := .int (z.1 h0 9)) (C := RX18) (T := TX18) (N := 78) hx hb hts iwd_X18_placeCount_X18 hown hK hP h0 (Wd_ob kg_1 sg_1 (by decide)) rfl 9 (by decide) (hts _ md_X18_placeCount_3) (fun _ h9 => h9) (fl_at (t := 0) rfl) dX18_placeCount_10 ?_
  refine lv_iadd hx hb dX18_placeCount_13 ?_
  obtain ⟨h8, h9⟩ := ret_some hf
  rw [h8, h9]
  exact W.iret (v := (((z.1 h0 3) + (z.1 h0 5)) + (z.1 h0 9))) hx hb hr (fun t ht hW => ⟨⟨(((z.1 h0 3) + (z.1 h0 5)) + (z.1 h0 9)), (), rfl, rfl, by rw [ht]; exact hP, va_K.moved hW.alike hK, hD⟩, hS.F ht⟩) hS.2.2 dX18_placeCount_14

theorem md_X18_newAccount_1 : (.fieldLink RX18 13 "ResourceLedgerModel" "addresses" "[J" : Cond) ∈ wsX18_newAccount := List.mem_of_getElem? (i := 1) rfl
theorem iwd_X18_newAccount_X18 : ∀ w ∈ wsX180, w ∈ wsX18_newAccount := fun _ h => List.mem_cons_of_mem _ (List.mem_append_right _ h)
theorem md_X18_newAccount_2 : (.fieldLink RX18 1 "ResourceLedgerModel" "accounts" "I" : Cond) ∈ wsX18_newAccount := List.mem_of_getElem? (i := 2) rfl
theorem md_X18_newAccount_3 : (.fieldLink RX18 303 "ResourceLedgerModel" "balances" "[J" : Cond) ∈ wsX18_newAccount := List.mem_of_getElem? (i := 3) rfl
theorem md_X18_newAccount_4 : (.fieldLink RX18 519 "ResourceLedgerModel" "sequences" "[J" : Cond) ∈ wsX18_newAccount := List.mem_of_getElem? (i := 4) rfl
def fn_X18_newAccount (F : Nat) (sh : Nat → Nat × Nat) (n : Nat) (z : St) (h0 : Nat) (x0 : Int64) : Option (St × Int32) := grd (okO sh n h0 18) (lnk (z.2.2 h0 0) (fun k_2 => grd (okA sh n k_2 102 (z.1 h0 3)) (lt_ (sl z k_2 (z.1 h0 3).toNatClampNeg x0) (fun z_5 => lnk (z_5.2.2 h0 1) (fun k_6 => grd (okA sh n k_6 102 (z_5.1 h0 3)) (lt_ (sl z_5 k_6 (z_5.1 h0 3).toNatClampNeg 0) (fun z_9 => lnk (z_9.2.2 h0 2) (fun k_10 => grd (okA sh n k_10 102 (z_9.1 h0 3)) (lt_ (sl z_9 k_10 (z_9.1 h0 3).toNatClampNeg 0) (fun z_13 => lt_ (si z_13 h0 3 ((z_13.1 h0 3) + 1)) (fun z_15 => some (z_15, ((z_15.1 h0 3) - 1)))))))))))))
set_option maxHeartbeats 4000000 in
set_option maxRecDepth 100000 in
theorem de_X18_newAccount (l : Launch) (dC : Nat → ClassId) (dI : Nat → Nat → Nat) (cy : Nat → ClassId) (a : Nat → Nat) (sh : Nat → Nat × Nat) (n sz : Nat) (F : Nat) (z : St) (h0 : Nat) (x0 : Int64) {z8 : St} {r8 : Int32} (hf : fn_X18_newAccount F sh n z h0 x0 = some (z8, r8)) : Met l yX18_newAccount wsX18_newAccount ({ frames := 0, cells := 0, slots := 0, locals := 0 }) (va_Pc [.ref (a h0), .long x0] (fun U => U.heap.size = sz ∧ va_P (dC, dI) vwCl (Wd cy a sh n z) U.heap ∧ va_K (dC, dI) vwCl (TYS cy) U ∧ va_D (fun _ => True) (Wd cy a sh n z) ∧ NK U)) (va_Qi (fun (r9 : Int32) (u : Unit) => r9 = r8) (fun u t => va_P (dC, dI) vwCl (Wd cy a sh n z8) t.heap ∧ va_K (dC, dI) vwCl (TYS cy) t ∧ va_D (va_A (Wd cy a sh n z) sz) (Wd cy a sh n z8)) (va_A (Wd cy a sh n z) sz)) 0 0 (va_A (Wd cy a sh n z) sz) := by
  refine Met.ofW (cc := cX18_newAccount) (maxL := 3) (ret := (some .int)) (by decide) rfl ?_
  intro p e s m args below meth c s₁ B hml hv
  obtain ⟨rfl, hsz, hP, hK, hD0, hN⟩ := hv
  have hx := B.exec
  have hb := B.bytes
  have hr := B.returns
  have hts := atoms_spec (ws := wsX18_newAccount) B.pre
  have hown : s.vm.findClass RX18 = some m.cls := findClass_of_methodNamed B.named
  have hlocks := B.notSynchronized
  subst hsz
  have hD := hD0.self (sz := s.heap.size)
  clear hD0
  generalize hAe : va_A (Wd cy a sh n z) s.heap.size = A at hD ⊢
  have hA : ∀ q : Nat, s.heap.size ≤ q → A q := fun q h => by rw [← hAe]; exact Or.inr h
  clear hAe
  have hS : va_S A s.heap s.heap [] := va_S.rf
  have hl := lv_entry ([.ref (a h0), .long x0]) (n := 3) (Nat.le_of_ble_eq_true rfl)
  rw [lg_entry_eq]
  generalize (lg_sl ([.ref (a h0), .long x0]) ++ List.replicate (3 - (lg_sl ([.ref (a h0), .long x0])).length) Slot.unset).toArray = ls at hl ⊢
  replace hl : lv_has ls 3 [(0, .ref (a h0)), (1, .long x0)] := hl
  unfold fn_X18_newAccount at hf
  refine de_start hS hP (fun H locs hS hP => ?_)
  refine lv_aload_n hx hb dX18_newAccount_0 rfl (lv_at hl 0 rfl) ?_
  obtain ⟨g_1, hf⟩ := grd_some hf
  obtain ⟨kg_1, sg_1⟩ := okO_at g_1
  obtain ⟨k_2, ek_2, hf⟩ := lnk_some hf
  refine va_get (D := (dC, dI)) (ci := 18) (v := .ref (a k_2)) (C := RX18) (T := TX18) (N := 78) hx hb hts iwd_X18_newAccount_X18 hown hK hP h0 (Wd_ob kg_1 sg_1 (by decide)) rfl 0 (by decide) (hts _ md_X18_newAccount_1) (fun _ h9 => h9) (fl_q rfl ek_2) dX18_newAccount_1 ?_
  refine lv_aload_n hx hb dX18_newAccount_4 rfl (lv_at hl 0 rfl) ?_
  refine va_get (D := (dC, dI)) (ci := 18) (v := .int (z.1 h0 3)) (C := RX18) (T := TX18) (N := 78) hx hb hts iwd_X18_newAccount_X18 hown hK hP h0 (Wd_ob kg_1 sg_1 (by decide)) rfl 3 (by decide) (hts _ md_X18_newAccount_2) (fun _ h9 => h9) (fl_at (t := 0) rfl) dX18_newAccount_5 ?_
  refine lv_lload_n hx hb dX18_newAccount_8 rfl (lv_at hl 1 rfl) ?_
  obtain ⟨g_3, hf⟩ := grd_some hf
  obtain ⟨kg_3, sg_3, ig_3⟩ := okA_at g_3
  refine va_last hx hb hK hP hD hS k_2 2 (Wd_al kg_3 sg_3) rfl ig_3 dX18_newAccount_9 (fun H_4 locs hP2 hD2 hS2 => ?_)
  rw [Wd_tl sg_3] at hP2 hD2
  obtain ⟨z_5, ez_5⟩ : ∃ w, w = sl z k_2 (z.1 h0 3).toNatClampNeg x0 := ⟨_, rfl⟩
  rw [← ez_5] at hP2 hD2
  replace hf := lt_at ez_5 hf
  clear ez_5
  replace hP := hP2
  replace hD := hD2
  replace hS := hS2
  clear hP2 hD2 hS2
  refine lv_aload_n hx hb dX18_newAccount_10 rfl (lv_at hl 0 rfl) ?_
  obtain ⟨k_6, ek_6, hf⟩ := lnk_some hf
  refine va_get (D := (dC, dI)) (ci := 18) (v := .ref (a k_6)) (C := RX18) (T := TX18) (N := 78) hx hb hts iwd_X18_newAccount_X18 hown hK hP h0 (Wd_ob kg_1 sg_1 (by decide)) rfl 1 (by decide) (hts _ md_X18_newAccount_3) (fun _ h9 => h9) (fl_q rfl ek_6) dX18_newAccount_11 ?_
  refine lv_aload_n hx hb dX18_newAccount_14 rfl (lv_at hl 0 rfl) ?_
  refine va_get (D := (dC, dI)) (ci := 18) (v := .int (z_5.1 h0 3)) (C := RX18) (T := TX18) (N := 78) hx hb hts iwd_X18_newAccount_X18 hown hK hP h0 (Wd_ob kg_1 sg_1 (by decide)) rfl 3 (by decide) (hts _ md_X18_newAccount_2) (fun _ h9 => h9) (fl_at (t := 0) rfl) dX18_newAccount_15 ?_
  refine lv_lconst (v := 0) hx hb dX18_newAccount_18 (by decide) ?_
  obtain ⟨g_7, hf⟩ := grd_some hf
  obtain ⟨kg_7, sg_7, ig_7⟩ := okA_at g_7
  refine va_last hx hb hK hP hD hS k_6 2 (Wd_al kg_7 sg_7) rfl ig_7 dX18_newAccount_19 (fun H_8 locs hP2 hD2 hS2 => ?_)
  rw [Wd_tl sg_7] at hP2 hD2
  obtain ⟨z_9, ez_9⟩ : ∃ w, w = sl z_5 k_6 (z_5.1 h0 3).toNatClampNeg 0 := ⟨_, rfl⟩
  rw [← ez_9] at hP2 hD2
  replace hf := lt_at ez_9 hf
  clear ez_9
  replace hP := hP2
  replace hD := hD2
  replace hS := hS2
  clear hP2 hD2 hS2
  refine lv_aload_n hx hb dX18_newAccount_20 rfl (lv_at hl 0 rfl) ?_
  obtain ⟨k_10, ek_10, hf⟩ := lnk_some hf
  refine va_get (D := (dC, dI)) (ci := 18) (v := .ref (a k_10)) (C := RX18) (T := TX18) (N := 78) hx hb hts iwd_X18_newAccount_X18 hown hK hP h0 (Wd_ob kg_1 sg_1 (by decide)) rfl 2 (by decide) (hts _ md_X18_newAccount_4) (fun _ h9 => h9) (fl_q rfl ek_10) dX18_newAccount_21 ?_
  refine lv_aload_n hx hb dX18_newAccount_24 rfl (lv_at hl 0 rfl) ?_
  refine va_get (D := (dC, dI)) (ci := 18) (v := .int (z_9.1 h0 3)) (C := RX18) (T := TX18) (N := 78) hx hb hts iwd_X18_newAccount_X18 hown hK hP h0 (Wd_ob kg_1 sg_1 (by decide)) rfl 3 (by decide) (hts _ md_X18_newAccount_2) (fun _ h9 => h9) (fl_at (t := 0) rfl) dX18_newAccount_25 ?_
  refine lv_lconst (v := 0) hx hb dX18_newAccount_28 (by decide) ?_
  obtain ⟨g_11, hf⟩ := grd_some hf
  obtain ⟨kg_11, sg_11, ig_11⟩ := okA_at g_11
  refine va_last hx hb hK hP hD hS k_10 2 (Wd_al kg_11 sg_11) rfl ig_11 dX18_newAccount_29 (fun H_12 locs hP2 hD2 hS2 => ?_)
  rw [Wd_tl sg_11] at hP2 hD2
  obtain ⟨z_13, ez_13⟩ : ∃ w, w = sl z_9 k_10 (z_9.1 h0 3).toNatClampNeg 0 := ⟨_, rfl⟩
  rw [← ez_13] at hP2 hD2
  replace hf := lt_at ez_13 hf
  clear ez_13
  replace hP := hP2
  replace hD := hD2
  replace hS := hS2
  clear hP2 hD2 hS2
  refine lv_aload_n hx hb dX18_newAccount_30 rfl (lv_at hl 0 rfl) ?_
  refine lv_dup hx hb dX18_newAccount_31 rfl ?_
  refine va_get (D := (dC, dI)) (ci := 18) (v := .int (z_13.1 h0 3)) (C := RX18) (T := TX18) (N := 78) hx hb hts iwd_X18_newAccount_X18 hown hK hP h0 (Wd_ob kg_1 sg_1 (by decide)) rfl 3 (by decide) (hts _ md_X18_newAccount_2) (fun _ h9 => h9) (fl_at (t := 0) rfl) dX18_newAccount_32 ?_
  refine lv_iconst (v := 1) hx hb dX18_newAccount_35 (by decide) ?_
  refine lv_iadd hx hb dX18_newAccount_36 ?_
  refine va_put (D := (dC, dI)) (ci := 18) (v := .int ((z_13.1 h0 3) + 1)) (ty := .int) (C := RX18) (T := TX18) (N := 78) hx hb hts iwd_X18_newAccount_X18 tyX18 tyX18_ok nmX18 hown hK hP hD hS h0 (Wd_ob kg_1 sg_1 (by decide)) rfl 3 (by decide) (hts _ md_X18_newAccount_2) (fun _ h9 => h9) rfl (by decide +kernel) rfl rfl (by rw [fl_len]; decide) dX18_newAccount_37 (fun H_14 locs hP2 hD2 hS2 => ?_)
  rw [Wd_si sg_1 (by decide) rfl] at hP2 hD2
  obtain ⟨z_15, ez_15⟩ : ∃ w, w = si z_13 h0 3 ((z_13.1 h0 3) + 1) := ⟨_, rfl⟩
  rw [← ez_15] at hP2 hD2
  replace hf := lt_at ez_15 hf
  clear ez_15
  replace hP := hP2
  replace hD := hD2
  replace hS := hS2
  clear hP2 hD2 hS2
  refine lv_aload_n hx hb dX18_newAccount_40 rfl (lv_at hl 0 rfl) ?_
  refine va_get (D := (dC, dI)) (ci := 18) (v := .int (z_15.1 h0 3)) (C := RX18) (T := TX18) (N := 78) hx hb hts iwd_X18_newAccount_X18 hown hK hP h0 (Wd_ob kg_1 sg_1 (by decide)) rfl 3 (by decide) (hts _ md_X18_newAccount_2) (fun _ h9 => h9) (fl_at (t := 0) rfl) dX18_newAccount_41 ?_
  refine lv_iconst (v := 1) hx hb dX18_newAccount_44 (by decide) ?_
  refine lv_isub hx hb dX18_newAccount_45 ?_
  obtain ⟨h8, h9⟩ := ret_some hf
  rw [h8, h9]
  exact W.iret (v := ((z_15.1 h0 3) - 1)) hx hb hr (fun t ht hW => ⟨⟨((z_15.1 h0 3) - 1), (), rfl, rfl, by rw [ht]; exact hP, va_K.moved hW.alike hK, hD⟩, hS.F ht⟩) hS.2.2 dX18_newAccount_46

theorem md_X18_mint_1 : (.fieldLink RX18 612 "ResourceLedgerModel" "minted" "J" : Cond) ∈ wsX18_mint := List.mem_of_getElem? (i := 1) rfl
theorem iwd_X18_mint_X18 : ∀ w ∈ wsX180, w ∈ wsX18_mint := fun _ h => List.mem_cons_of_mem _ (List.mem_append_right _ h)
theorem md_X18_mint_2 : (.fieldLink RX18 615 "ResourceLedgerModel" "burned" "J" : Cond) ∈ wsX18_mint := List.mem_of_getElem? (i := 2) rfl
theorem md_X18_mint_3 : (.constantLong RX18 618 (4611686018427387904) : Cond) ∈ wsX18_mint := List.mem_of_getElem? (i := 3) rfl
theorem md_X18_mint_4 : (.fieldLink RX18 303 "ResourceLedgerModel" "balances" "[J" : Cond) ∈ wsX18_mint := List.mem_of_getElem? (i := 4) rfl
def fn_X18_mint_B81 (F : Nat) (sh : Nat → Nat × Nat) (n : Nat) (h0 : Nat) (x1 : Int64) (z_10 : St) (p_9 : Int32) : Option (St × Int32) := lnk (z_10.2.2 h0 1) (fun k_11 => grd (okA sh n k_11 102 p_9) (grd (okA sh n k_11 102 p_9) (lt_ (sl z_10 k_11 p_9.toNatClampNeg ((z_10.2.1 k_11 p_9.toNatClampNeg) + x1)) (fun z_15 => lt_ (sl z_15 h0 20 ((z_15.2.1 h0 20) + x1)) (fun z_17 => some (z_17, 1))))))
theorem fn_X18_mint_B81_s {F : Nat} {sh : Nat → Nat × Nat} {n : Nat} {h0 : Nat} {x1 : Int64} {z_10 : St} {p_9 : Int32} {y : St × Int32} (h : fn_X18_mint_B81 F sh n h0 x1 z_10 p_9 = some y) : (lnk (z_10.2.2 h0 1) (fun k_11 => grd (okA sh n k_11 102 p_9) (grd (okA sh n k_11 102 p_9) (lt_ (sl z_10 k_11 p_9.toNatClampNeg ((z_10.2.1 k_11 p_9.toNatClampNeg) + x1)) (fun z_15 => lt_ (sl z_15 h0 20 ((z_15.2.1 h0 20) + x1)) (fun z_17 => some (z_17, 1))))))) = some y := h
def fn_X18_mint_B66 (F : Nat) (sh : Nat → Nat × Nat) (n : Nat) (r_6 : Int32) (h0 : Nat) (x1 : Int64) (x0 : Int64) (z_8 : St) : Option (St × Int32) := if (0 : Int32) ≤ r_6 then fn_X18_mint_B81 F sh n h0 x1 z_8 r_6 else cal (fn_X18_newAccount F sh n z_8 h0 x0) (fun z_19 r_20 => fn_X18_mint_B81 F sh n h0 x1 z_19 r_20)
theorem fn_X18_mint_B66_s {F : Nat} {sh : Nat → Nat × Nat} {n : Nat} {r_6 : Int32} {h0 : Nat} {x1 : Int64} {x0 : Int64} {z_8 : St} {y : St × Int32} (h : fn_X18_mint_B66 F sh n r_6 h0 x1 x0 z_8 = some y) : (if (0 : Int32) ≤ r_6 then fn_X18_mint_B81 F sh n h0 x1 z_8 r_6 else cal (fn_X18_newAccount F sh n z_8 h0 x0) (fun z_19 r_20 => fn_X18_mint_B81 F sh n h0 x1 z_19 r_20)) = some y := h
def fn_X18_mint (F : Nat) (sh : Nat → Nat × Nat) (n : Nat) (z : St) (h0 : Nat) (x0 : Int64) (x1 : Int64) : Option (St × Int32) := if (x1 : Int64) < 0 then some (z, 0) else grd (okO sh n h0 18) (if (4611686018427387904 : Int64) ≤ (((z.2.1 h0 20) - (z.2.1 h0 21)) + x1) then some (z, 0) else if (0 : Int64) ≤ (((z.2.1 h0 20) - (z.2.1 h0 21)) + x1) then cal (fn_X18_findAccount F sh n z h0 x0) (fun z_5 r_6 => if (0 : Int32) ≤ r_6 then fn_X18_mint_B66 F sh n r_6 h0 x1 x0 z_5  else cal (fn_X18_placeCount F sh n z_5 h0) (fun z_23 r_24 => if (r_24 : Int32) = 256 then some (z_23, 0) else fn_X18_mint_B66 F sh n r_6 h0 x1 x0 z_23 )) else some (z, 0))
set_option maxHeartbeats 4000000 in
set_option maxRecDepth 100000 in
theorem de_X18_mint (l : Launch) (dC : Nat → ClassId) (dI : Nat → Nat → Nat) (cy : Nat → ClassId) (a : Nat → Nat) (sh : Nat → Nat × Nat) (n sz : Nat) (F : Nat) (z : St) (h0 : Nat) (x0 : Int64) (x1 : Int64) {z8 : St} {r8 : Int32} (hf : fn_X18_mint F sh n z h0 x0 x1 = some (z8, r8)) : Met l yX18_mint wsX18_mint ({ frames := 1, cells := 0, slots := 0, locals := 23 }) (va_Pc [.ref (a h0), .long x0, .long x1] (fun U => U.heap.size = sz ∧ va_P (dC, dI) vwCl (Wd cy a sh n z) U.heap ∧ va_K (dC, dI) vwCl (TYS cy) U ∧ va_D (fun _ => True) (Wd cy a sh n z) ∧ NK U)) (va_Qi (fun (r9 : Int32) (u : Unit) => r9 = r8) (fun u t => va_P (dC, dI) vwCl (Wd cy a sh n z8) t.heap ∧ va_K (dC, dI) vwCl (TYS cy) t ∧ va_D (va_A (Wd cy a sh n z) sz) (Wd cy a sh n z8)) (va_A (Wd cy a sh n z) sz)) 0 0 (va_A (Wd cy a sh n z) sz) := by
  refine Met.ofW (cc := cX18_mint) (maxL := 6) (ret := (some .boolean)) (by decide) rfl ?_
  intro p e s m args below meth c s₁ B hml hv
  obtain ⟨rfl, hsz, hP, hK, hD0, hN⟩ := hv
  have hx := B.exec
  have hb := B.bytes
  have hr := B.returns
  have hts := atoms_spec (ws := wsX18_mint) B.pre
  have hown : s.vm.findClass RX18 = some m.cls := findClass_of_methodNamed B.named
  have hlocks := B.notSynchronized
  subst hsz
  have hD := hD0.self (sz := s.heap.size)
  clear hD0
  generalize hAe : va_A (Wd cy a sh n z) s.heap.size = A at hD ⊢
  have hA : ∀ q : Nat, s.heap.size ≤ q → A q := fun q h => by rw [← hAe]; exact Or.inr h
  clear hAe
  have hS : va_S A s.heap s.heap [] := va_S.rf
  have hl := lv_entry ([.ref (a h0), .long x0, .long x1]) (n := 6) (Nat.le_of_ble_eq_true rfl)
  rw [lg_entry_eq]
  generalize (lg_sl ([.ref (a h0), .long x0, .long x1]) ++ List.replicate (6 - (lg_sl ([.ref (a h0), .long x0, .long x1])).length) Slot.unset).toArray = ls at hl ⊢
  replace hl : lv_has ls 6 [(0, .ref (a h0)), (1, .long x0), (3, .long x1)] := hl
  unfold fn_X18_mint at hf
  refine de_start hS hP (fun H locs hS hP => ?_)
  refine lv_lload_n hx hb dX18_mint_0 rfl (lv_at hl 2 rfl) ?_
  refine lv_lconst (v := 0) hx hb dX18_mint_1 (by decide) ?_
  refine W.lcmp hx hb dX18_mint_2 ?_
  refine lv_if_lt (tgt := 40) hx hb dX18_mint_3 (by decide) (fun c_1 => ?_) (fun c_1 => ?_)
  · skip
    rw [lg_cmp_lt] at c_1
    rw [if_pos c_1] at hf
    refine lv_iconst (v := 0) hx hb dX18_mint_40 (by decide) ?_
    obtain ⟨h8, h9⟩ := ret_some hf
    rw [h8, h9]
    exact W.zret (v := 0) hx hb hr rfl (fun t ht hW => ⟨⟨0, (), rfl, rfl, by rw [ht]; exact hP, va_K.moved hW.alike hK, hD⟩, hS.F ht⟩) hS.2.2 dX18_mint_41
  · skip
    rw [lg_cmp_lt] at c_1
    rw [if_neg c_1] at hf
    refine lv_aload_n hx hb dX18_mint_6 rfl (lv_at hl 0 rfl) ?_
    obtain ⟨g_2, hf⟩ := grd_some hf
    obtain ⟨kg_2, sg_2⟩ := okO_at g_2
    refine va_get (D := (dC, dI)) (ci := 18) (v := .long (z.2.1 h0 20)) (C := RX18) (T := TX18) (N := 78) hx hb hts iwd_X18_mint_X18 hown hK hP h0 (Wd_ob kg_2 sg_2 (by decide)) rfl 20 (by decide) (hts _ md_X18_mint_1) (fun _ h9 => h9) (fl_at (t := 1) rfl) dX18_mint_7 ?_
    refine lv_aload_n hx hb dX18_mint_10 rfl (lv_at hl 0 rfl) ?_
    refine va_get (D := (dC, dI)) (ci := 18) (v := .long (z.2.1 h0 21)) (C := RX18) (T := TX18) (N := 78) hx hb hts iwd_X18_mint_X18 hown hK hP h0 (Wd_ob kg_2 sg_2 (by decide)) rfl 21 (by decide) (hts _ md_X18_mint_2) (fun _ h9 => h9) (fl_at (t := 1) rfl) dX18_mint_11 ?_
    refine lv_lsub hx hb dX18_mint_14 ?_
    refine lv_lload_n hx hb dX18_mint_15 rfl (lv_at hl 2 rfl) ?_
    refine lv_ladd hx hb dX18_mint_16 ?_
    refine lv_ldc2 hx hb hown (hts _ md_X18_mint_3) dX18_mint_17 ?_
    refine W.lcmp hx hb dX18_mint_20 ?_
    refine lv_if_ge (tgt := 40) hx hb dX18_mint_21 (by decide) (fun c_3 => ?_) (fun c_3 => ?_)
    · skip
      rw [lg_cmp_ge] at c_3
      rw [if_pos c_3] at hf
      refine lv_iconst (v := 0) hx hb dX18_mint_40 (by decide) ?_
      obtain ⟨h8, h9⟩ := ret_some hf
      rw [h8, h9]
      exact W.zret (v := 0) hx hb hr rfl (fun t ht hW => ⟨⟨0, (), rfl, rfl, by rw [ht]; exact hP, va_K.moved hW.alike hK, hD⟩, hS.F ht⟩) hS.2.2 dX18_mint_41
    · skip
      rw [lg_cmp_ge] at c_3
      rw [if_neg c_3] at hf
      refine lv_aload_n hx hb dX18_mint_24 rfl (lv_at hl 0 rfl) ?_
      refine va_get (D := (dC, dI)) (ci := 18) (v := .long (z.2.1 h0 20)) (C := RX18) (T := TX18) (N := 78) hx hb hts iwd_X18_mint_X18 hown hK hP h0 (Wd_ob kg_2 sg_2 (by decide)) rfl 20 (by decide) (hts _ md_X18_mint_1) (fun _ h9 => h9) (fl_at (t := 1) rfl) dX18_mint_25 ?_
      refine lv_aload_n hx hb dX18_mint_28 rfl (lv_at hl 0 rfl) ?_
      refine va_get (D := (dC, dI)) (ci := 18) (v := .long (z.2.1 h0 21)) (C := RX18) (T := TX18) (N := 78) hx hb hts iwd_X18_mint_X18 hown hK hP h0 (Wd_ob kg_2 sg_2 (by decide)) rfl 21 (by decide) (hts _ md_X18_mint_2) (fun _ h9 => h9) (fl_at (t := 1) rfl) dX18_mint_29 ?_
      refine lv_lsub hx hb dX18_mint_32 ?_
      refine lv_lload_n hx hb dX18_mint_33 rfl (lv_at hl 2 rfl) ?_
      refine lv_ladd hx hb dX18_mint_34 ?_
      refine lv_lconst (v := 0) hx hb dX18_mint_35 (by decide) ?_
      refine W.lcmp hx hb dX18_mint_36 ?_
      refine lv_if_ge (tgt := 42) hx hb dX18_mint_37 (by decide) (fun c_4 => ?_) (fun c_4 => ?_)
      · skip
        rw [lg_cmp_ge] at c_4
        rw [if_pos c_4] at hf
        refine lv_aload_n hx hb dX18_mint_42 rfl (lv_at hl 0 rfl) ?_
        refine lv_lload_n hx hb dX18_mint_43 rfl (lv_at hl 1 rfl) ?_
        obtain ⟨z_5, r_6, hfc, hf⟩ := cal_some hf
        have hFc := de_free hD hS hA
        refine va_calli (va_runV (As := [.long x0]) (rest := []) ⟨hx, hb, hml, hown, hts⟩ (de_X18_findAccount l dC dI cy a sh n H.size F z h0 x0 hfc) (cwV 1 hts gX18_mint_X18_findAccount rfl rfl rfl (by decide +kernel) ⟨Nat.le_of_ble_eq_true rfl, Nat.le_of_ble_eq_true rfl⟩) ⟨fun a U g mk q => by obtain ⟨q0, q1, qP, qK, qD, qN⟩ := q; exact ⟨q0, q1, qP, va_K.moved (u := U) (U := U.calling g mk a) (Vm.Alike.refl U.vm) qK, qD, qN.same rfl⟩, va_recv hK hP (ci := 18) (q0 := h0) rfl (Wd_ob kg_2 sg_2 (by decide)), fun U hU hW => ⟨rfl, by rw [hU], by rw [hU]; exact hP, va_K.moved hW.alike hK, hD.weaken (fun _ _ _ _ => trivial), hN.warm hW⟩⟩ rfl rfl hl.1 rfl (lv_room (Nat.le_of_ble_eq_true rfl)) dX18_mint_44 ⟨Nat.le_of_ble_eq_true rfl, Nat.le_of_ble_eq_true rfl⟩) hS (fun q _ h => hFc q h) hFc (fun rr u t H_7 locs ht hvm hw hB hz1 hk1 hS2 => ?_)
        rw [hw]
        clear hw
        obtain ⟨hP1, -, hD1⟩ := hB
        rw [ht] at hP1
        replace hD := hD1.weaken (fun _ _ _ h => hFc _ h)
        replace hP := hP1
        replace hS := hS2
        clear hP1 hD1 hS2 hFc hfc hz1 hk1 hvm ht
        refine lv_istore (lv' := [(5, .int r_6), (0, .ref (a h0)), (1, .long x0), (3, .long x1)]) hx hb dX18_mint_47 hl (by decide) rfl (fun ls hl2 => ?_)
        replace hl := hl2
        clear hl2
        refine lv_iload hx hb dX18_mint_49 (lv_at hl 0 rfl) ?_
        refine de_cut (h := 66) (fun (x : St) => []) (fun x ls H locs => lv_has ls 6 [(5, .int r_6), (0, .ref (a h0)), (1, .long x0), (3, .long x1)] ∧ va_P (dC, dI) vwCl (Wd cy a sh n x) H ∧ va_D A (Wd cy a sh n x) ∧ va_S A s.heap H locs) (fun x => fn_X18_mint_B66 F sh n r_6 h0 x1 x0 x) (z8, r8) ?_ (fun B66 => ?_)
        · intro x ls H locs hI hf
          obtain ⟨z_8, ez⟩ : ∃ w, w = x := ⟨_, rfl⟩
          subst ez
          obtain ⟨hl2, hP2, hD2, hS2⟩ := hI
          replace hl : lv_has ls 6 [(5, .int r_6), (0, .ref (a h0)), (1, .long x0), (3, .long x1)] := hl2
          replace hP := hP2
          replace hD := hD2
          replace hS := hS2
          clear hl2 hP2 hD2 hS2
          replace hf := fn_X18_mint_B66_s hf
          refine W.eq (g2 := F0 m 66 ls []) rfl ?_
          refine lv_iload hx hb dX18_mint_66 (lv_at hl 0 rfl) ?_
          refine de_cut (h := 81) (fun (x : St × Int32) => [.int x.2]) (fun x ls H locs => lv_has ls 6 [(0, .ref (a h0)), (3, .long x1)] ∧ va_P (dC, dI) vwCl (Wd cy a sh n x.1) H ∧ va_D A (Wd cy a sh n x.1) ∧ va_S A s.heap H locs) (fun x => fn_X18_mint_B81 F sh n h0 x1 x.1 x.2) (z8, r8) ?_ (fun B81 => ?_)
          · intro x ls H locs hI hf
            obtain ⟨z_10, p_9⟩ := x
            obtain ⟨hl2, hP2, hD2, hS2⟩ := hI
            replace hl : lv_has ls 6 [(0, .ref (a h0)), (3, .long x1)] := hl2
            replace hP := hP2
            replace hD := hD2
            replace hS := hS2
            clear hl2 hP2 hD2 hS2
            replace hf := fn_X18_mint_B81_s hf
            refine W.eq (g2 := F0 m 81 ls [.int p_9]) rfl ?_
            refine lv_istore (lv' := [(5, .int p_9), (0, .ref (a h0)), (3, .long x1)]) hx hb dX18_mint_81 hl (by decide) rfl (fun ls hl2 => ?_)
            replace hl := hl2
            clear hl2
            refine lv_aload_n hx hb dX18_mint_83 rfl (lv_at hl 1 rfl) ?_
            obtain ⟨k_11, ek_11, hf⟩ := lnk_some hf
            refine va_get (D := (dC, dI)) (ci := 18) (v := .ref (a k_11)) (C := RX18) (T := TX18) (N := 78) hx hb hts iwd_X18_mint_X18 hown hK hP h0 (Wd_ob kg_2 sg_2 (by decide)) rfl 1 (by decide) (hts _ md_X18_mint_4) (fun _ h9 => h9) (fl_q rfl ek_11) dX18_mint_84 ?_
            refine lv_iload hx hb dX18_mint_87 (lv_at hl 0 rfl) ?_
            refine lv_dup2_11 hx hb dX18_mint_89 rfl rfl ?_
            obtain ⟨g_12, hf⟩ := grd_some hf
            obtain ⟨kg_12, sg_12, ig_12⟩ := okA_at g_12
            refine va_lald hx hb hK hP k_11 2 (Wd_al kg_12 sg_12) rfl ig_12 dX18_mint_90 ?_
            refine lv_lload_n hx hb dX18_mint_91 rfl (lv_at hl 2 rfl) ?_
            refine lv_ladd hx hb dX18_mint_92 ?_
            obtain ⟨g_13, hf⟩ := grd_some hf
            obtain ⟨kg_13, sg_13, ig_13⟩ := okA_at g_13
            refine va_last hx hb hK hP hD hS k_11 2 (Wd_al kg_13 sg_13) rfl ig_13 dX18_mint_93 (fun H_14 locs hP2 hD2 hS2 => ?_)
            rw [Wd_tl sg_13] at hP2 hD2
            obtain ⟨z_15, ez_15⟩ : ∃ w, w = sl z_10 k_11 p_9.toNatClampNeg ((z_10.2.1 k_11 p_9.toNatClampNeg) + x1) := ⟨_, rfl⟩
            rw [← ez_15] at hP2 hD2
            replace hf := lt_at ez_15 hf
            clear ez_15
            replace hP := hP2
            replace hD := hD2
            replace hS := hS2
            clear hP2 hD2 hS2
            refine lv_aload_n hx hb dX18_mint_94 rfl (lv_at hl 1 rfl) ?_
            refine lv_dup hx hb dX18_mint_95 rfl ?_
            refine va_get (D := (dC, dI)) (ci := 18) (v := .long (z_15.2.1 h0 20)) (C := RX18) (T := TX18) (N := 78) hx hb hts iwd_X18_mint_X18 hown hK hP h0 (Wd_ob kg_2 sg_2 (by decide)) rfl 20 (by decide) (hts _ md_X18_mint_1) (fun _ h9 => h9) (fl_at (t := 1) rfl) dX18_mint_96 ?_
            refine lv_lload_n hx hb dX18_mint_99 rfl (lv_at hl 2 rfl) ?_
            refine lv_ladd hx hb dX18_mint_100 ?_
            refine va_put (D := (dC, dI)) (ci := 18) (v := .long ((z_15.2.1 h0 20) + x1)) (ty := .long) (C := RX18) (T := TX18) (N := 78) hx hb hts iwd_X18_mint_X18 tyX18 tyX18_ok nmX18 hown hK hP hD hS h0 (Wd_ob kg_2 sg_2 (by decide)) rfl 20 (by decide) (hts _ md_X18_mint_1) (fun _ h9 => h9) rfl (by decide +kernel) rfl rfl (by rw [fl_len]; decide) dX18_mint_101 (fun H_16 locs hP2 hD2 hS2 => ?_)
            rw [Wd_sl sg_2 (by decide) rfl] at hP2 hD2
            obtain ⟨z_17, ez_17⟩ : ∃ w, w = sl z_15 h0 20 ((z_15.2.1 h0 20) + x1) := ⟨_, rfl⟩
            rw [← ez_17] at hP2 hD2
            replace hf := lt_at ez_17 hf
            clear ez_17
            replace hP := hP2
            replace hD := hD2
            replace hS := hS2
            clear hP2 hD2 hS2
            refine lv_iconst (v := 1) hx hb dX18_mint_104 (by decide) ?_
            obtain ⟨h8, h9⟩ := ret_some hf
            rw [h8, h9]
            exact W.zret (v := 1) hx hb hr rfl (fun t ht hW => ⟨⟨1, (), rfl, rfl, by rw [ht]; exact hP, va_K.moved hW.alike hK, hD⟩, hS.F ht⟩) hS.2.2 dX18_mint_105
          refine lv_if_ge (tgt := 79) hx hb dX18_mint_68 (by decide) (fun c_18 => ?_) (fun c_18 => ?_)
          · skip
            rw [if_pos c_18] at hf
            refine lv_iload hx hb dX18_mint_79 (lv_at hl 0 rfl) ?_
            exact B81 (z_8, r_6) ls H locs ⟨lv_sub hl [1, 3] rfl, hP, hD, hS⟩ hf
          · skip
            rw [if_neg c_18] at hf
            refine lv_aload_n hx hb dX18_mint_71 rfl (lv_at hl 1 rfl) ?_
            refine lv_lload_n hx hb dX18_mint_72 rfl (lv_at hl 2 rfl) ?_
            obtain ⟨z_19, r_20, hfc, hf⟩ := cal_some hf
            have hFc := de_free hD hS hA
            refine va_calli (va_runV (As := [.long x0]) (rest := []) ⟨hx, hb, hml, hown, hts⟩ (de_X18_newAccount l dC dI cy a sh n H.size F z_8 h0 x0 hfc) (cwV 1 hts gX18_mint_X18_newAccount rfl rfl rfl (by decide +kernel) ⟨Nat.le_of_ble_eq_true rfl, Nat.le_of_ble_eq_true rfl⟩) ⟨fun a U g mk q => by obtain ⟨q0, q1, qP, qK, qD, qN⟩ := q; exact ⟨q0, q1, qP, va_K.moved (u := U) (U := U.calling g mk a) (Vm.Alike.refl U.vm) qK, qD, qN.same rfl⟩, va_recv hK hP (ci := 18) (q0 := h0) rfl (Wd_ob kg_2 sg_2 (by decide)), fun U hU hW => ⟨rfl, by rw [hU], by rw [hU]; exact hP, va_K.moved hW.alike hK, hD.weaken (fun _ _ _ _ => trivial), hN.warm hW⟩⟩ rfl rfl hl.1 rfl (lv_room (Nat.le_of_ble_eq_true rfl)) dX18_mint_73 ⟨Nat.le_of_ble_eq_true rfl, Nat.le_of_ble_eq_true rfl⟩) hS (fun q _ h => hFc q h) hFc (fun rr u t H_21 locs ht hvm hw hB hz1 hk1 hS2 => ?_)
            rw [hw]
            clear hw
            obtain ⟨hP1, -, hD1⟩ := hB
            rw [ht] at hP1
            replace hD := hD1.weaken (fun _ _ _ h => hFc _ h)
            replace hP := hP1
            replace hS := hS2
            clear hP1 hD1 hS2 hFc hfc hz1 hk1 hvm ht
            refine lv_goto (tgt := 81) hx hb dX18_mint_76 (by decide) ?_
            exact B81 (z_19, r_20) ls H_21 locs ⟨lv_sub hl [1, 3] rfl, hP, hD, hS⟩ hf
        refine lv_if_ge (tgt := 66) hx hb dX18_mint_51 (by decide) (fun c_22 => ?_) (fun c_22 => ?_)
        · skip
          rw [if_pos c_22] at hf
          exact B66 (z_5) ls H_7 locs ⟨lv_sub hl [0, 1, 2, 3] rfl, hP, hD, hS⟩ hf
        · skip
          rw [if_neg c_22] at hf
          refine lv_aload_n hx hb dX18_mint_54 rfl (lv_at hl 1 rfl) ?_
          obtain ⟨z_23, r_24, hfc, hf⟩ := cal_some hf
          have hFc := de_free hD hS hA
          refine va_calli (va_runV (As := []) (rest := []) ⟨hx, hb, hml, hown, hts⟩ (de_X18_placeCount l dC dI cy a sh n H_7.size F z_5 h0 hfc) (cwV 0 hts gX18_mint_X18_placeCount rfl rfl rfl (by decide +kernel) ⟨Nat.le_of_ble_eq_true rfl, Nat.le_of_ble_eq_true rfl⟩) ⟨fun a U g mk q => by obtain ⟨q0, q1, qP, qK, qD, qN⟩ := q; exact ⟨q0, q1, qP, va_K.moved (u := U) (U := U.calling g mk a) (Vm.Alike.refl U.vm) qK, qD, qN.same rfl⟩, va_recv hK hP (ci := 18) (q0 := h0) rfl (Wd_ob kg_2 sg_2 (by decide)), fun U hU hW => ⟨rfl, by rw [hU], by rw [hU]; exact hP, va_K.moved hW.alike hK, hD.weaken (fun _ _ _ _ => trivial), hN.warm hW⟩⟩ rfl rfl hl.1 rfl (lv_room (Nat.le_of_ble_eq_true rfl)) dX18_mint_55 ⟨Nat.le_of_ble_eq_true rfl, Nat.le_of_ble_eq_true rfl⟩) hS (fun q _ h => hFc q h) hFc (fun rr u t H_25 locs ht hvm hw hB hz1 hk1 hS2 => ?_)
          rw [hw]
          clear hw
          obtain ⟨hP1, -, hD1⟩ := hB
          rw [ht] at hP1
          replace hD := hD1.weaken (fun _ _ _ h => hFc _ h)
          replace hP := hP1
          replace hS := hS2
          clear hP1 hD1 hS2 hFc hfc hz1 hk1 hvm ht
          refine lv_sipush (v := 256) hx hb dX18_mint_58 (by decide) ?_
          refine lv_icmp_ne (tgt := 66) hx hb dX18_mint_61 (by decide) (fun c_26 => ?_) (fun c_26 => ?_)
          · skip
            rw [if_neg c_26] at hf
            exact B66 (z_23) ls H_25 locs ⟨lv_sub hl [0, 1, 2, 3] rfl, hP, hD, hS⟩ hf
          · skip
            rw [if_pos c_26] at hf
            refine lv_iconst (v := 0) hx hb dX18_mint_64 (by decide) ?_
            obtain ⟨h8, h9⟩ := ret_some hf
            rw [h8, h9]
            exact W.zret (v := 0) hx hb hr rfl (fun t ht hW => ⟨⟨0, (), rfl, rfl, by rw [ht]; exact hP, va_K.moved hW.alike hK, hD⟩, hS.F ht⟩) hS.2.2 dX18_mint_65
      · skip
        rw [lg_cmp_ge] at c_4
        rw [if_neg c_4] at hf
        refine lv_iconst (v := 0) hx hb dX18_mint_40 (by decide) ?_
        obtain ⟨h8, h9⟩ := ret_some hf
        rw [h8, h9]
        exact W.zret (v := 0) hx hb hr rfl (fun t ht hW => ⟨⟨0, (), rfl, rfl, by rw [ht]; exact hP, va_K.moved hW.alike hK, hD⟩, hS.F ht⟩) hS.2.2 dX18_mint_41

theorem md_X18_places_3 : (.fieldLink RX18 1 "ResourceLedgerModel" "accounts" "I" : Cond) ∈ wsX18_places := List.mem_of_getElem? (i := 3) rfl
theorem iwd_X18_places_X18 : ∀ w ∈ wsX180, w ∈ wsX18_places := fun _ h => List.mem_cons_of_mem _ (List.mem_append_right _ h)
theorem md_X18_places_2 : (.fieldLink RX18 10 "ResourceLedgerModel" "resources" "I" : Cond) ∈ wsX18_places := List.mem_of_getElem? (i := 2) rfl
theorem md_X18_places_1 : (.fieldLink RX18 7 "ResourceLedgerModel" "modules" "I" : Cond) ∈ wsX18_places := List.mem_of_getElem? (i := 1) rfl
def fn_X18_places (F : Nat) (sh : Nat → Nat × Nat) (n : Nat) (z : St) (h0 : Nat) (x0 : Int32) : Option (St × Int32) := if (x0 : Int32) = 0 then grd (okO sh n h0 18) (cal (fn_X18_placeCount F sh n z h0) (fun z_8 r_9 => some (z_8, r_9))) else if (x0 : Int32) = 1 then grd (okO sh n h0 18) (some (z, (z.1 h0 5))) else if (x0 : Int32) = 2 then grd (okO sh n h0 18) (some (z, (z.1 h0 9))) else if (x0 : Int32) = 3 then grd (okO sh n h0 18) (some (z, (z.1 h0 3))) else some (z, (-1))
set_option maxHeartbeats 4000000 in
set_option maxRecDepth 100000 in
theorem de_X18_places (l : Launch) (dC : Nat → ClassId) (dI : Nat → Nat → Nat) (cy : Nat → ClassId) (a : Nat → Nat) (sh : Nat → Nat × Nat) (n sz : Nat) (F : Nat) (z : St) (h0 : Nat) (x0 : Int32) {z8 : St} {r8 : Int32} (hf : fn_X18_places F sh n z h0 x0 = some (z8, r8)) : Met l yX18_places wsX18_places ({ frames := 1, cells := 0, slots := 0, locals := 20 }) (va_Pc [.ref (a h0), .int x0] (fun U => U.heap.size = sz ∧ va_P (dC, dI) vwCl (Wd cy a sh n z) U.heap ∧ va_K (dC, dI) vwCl (TYS cy) U ∧ va_D (fun _ => True) (Wd cy a sh n z) ∧ NK U)) (va_Qi (fun (r9 : Int32) (u : Unit) => r9 = r8) (fun u t => va_P (dC, dI) vwCl (Wd cy a sh n z8) t.heap ∧ va_K (dC, dI) vwCl (TYS cy) t ∧ va_D (va_A (Wd cy a sh n z) sz) (Wd cy a sh n z8)) (va_A (Wd cy a sh n z) sz)) 0 0 (va_A (Wd cy a sh n z) sz) := by
  refine Met.ofW (cc := cX18_places) (maxL := 2) (ret := (some .int)) (by decide) rfl ?_
  intro p e s m args below meth c s₁ B hml hv
  obtain ⟨rfl, hsz, hP, hK, hD0, hN⟩ := hv
  have hx := B.exec
  have hb := B.bytes
  have hr := B.returns
  have hts := atoms_spec (ws := wsX18_places) B.pre
  have hown : s.vm.findClass RX18 = some m.cls := findClass_of_methodNamed B.named
  have hlocks := B.notSynchronized
  subst hsz
  have hD := hD0.self (sz := s.heap.size)
  clear hD0
  generalize hAe : va_A (Wd cy a sh n z) s.heap.size = A at hD ⊢
  have hA : ∀ q : Nat, s.heap.size ≤ q → A q := fun q h => by rw [← hAe]; exact Or.inr h
  clear hAe
  have hS : va_S A s.heap s.heap [] := va_S.rf
  have hl := lv_entry ([.ref (a h0), .int x0]) (n := 2) (Nat.le_of_ble_eq_true rfl)
  rw [lg_entry_eq]
  generalize (lg_sl ([.ref (a h0), .int x0]) ++ List.replicate (2 - (lg_sl ([.ref (a h0), .int x0])).length) Slot.unset).toArray = ls at hl ⊢
  replace hl : lv_has ls 2 [(0, .ref (a h0)), (1, .int x0)] := hl
  unfold fn_X18_places at hf
  refine de_start hS hP (fun H locs hS hP => ?_)
  refine lv_iload_n hx hb dX18_places_0 rfl (lv_at hl 1 rfl) ?_
  refine lv_if_ne (tgt := 11) hx hb dX18_places_1 (by decide) (fun c_1 => ?_) (fun c_1 => ?_)
  · skip
    rw [if_neg c_1] at hf
    refine lv_iload_n hx hb dX18_places_11 rfl (lv_at hl 1 rfl) ?_
    refine lv_iconst (v := 1) hx hb dX18_places_12 (by decide) ?_
    refine lv_icmp_ne (tgt := 23) hx hb dX18_places_13 (by decide) (fun c_2 => ?_) (fun c_2 => ?_)
    · skip
      rw [if_neg c_2] at hf
      refine lv_iload_n hx hb dX18_places_23 rfl (lv_at hl 1 rfl) ?_
      refine lv_iconst (v := 2) hx hb dX18_places_24 (by decide) ?_
      refine lv_icmp_ne (tgt := 35) hx hb dX18_places_25 (by decide) (fun c_3 => ?_) (fun c_3 => ?_)
      · skip
        rw [if_neg c_3] at hf
        refine lv_iload_n hx hb dX18_places_35 rfl (lv_at hl 1 rfl) ?_
        refine lv_iconst (v := 3) hx hb dX18_places_36 (by decide) ?_
        refine lv_icmp_ne (tgt := 47) hx hb dX18_places_37 (by decide) (fun c_4 => ?_) (fun c_4 => ?_)
        · skip
          rw [if_neg c_4] at hf
          refine lv_iconst (v := (-1)) hx hb dX18_places_47 (by decide) ?_
          obtain ⟨h8, h9⟩ := ret_some hf
          rw [h8, h9]
          exact W.iret (v := (-1)) hx hb hr (fun t ht hW => ⟨⟨(-1), (), rfl, rfl, by rw [ht]; exact hP, va_K.moved hW.alike hK, hD⟩, hS.F ht⟩) hS.2.2 dX18_places_48
        · skip
          rw [if_pos c_4] at hf
          refine lv_aload_n hx hb dX18_places_40 rfl (lv_at hl 0 rfl) ?_
          obtain ⟨g_5, hf⟩ := grd_some hf
          obtain ⟨kg_5, sg_5⟩ := okO_at g_5
          refine va_get (D := (dC, dI)) (ci := 18) (v := .int (z.1 h0 3)) (C := RX18) (T := TX18) (N := 78) hx hb hts iwd_X18_places_X18 hown hK hP h0 (Wd_ob kg_5 sg_5 (by decide)) rfl 3 (by decide) (hts _ md_X18_places_3) (fun _ h9 => h9) (fl_at (t := 0) rfl) dX18_places_41 ?_
          refine lv_goto (tgt := 48) hx hb dX18_places_44 (by decide) ?_
          obtain ⟨h8, h9⟩ := ret_some hf
          rw [h8, h9]
          exact W.iret (v := (z.1 h0 3)) hx hb hr (fun t ht hW => ⟨⟨(z.1 h0 3), (), rfl, rfl, by rw [ht]; exact hP, va_K.moved hW.alike hK, hD⟩, hS.F ht⟩) hS.2.2 dX18_places_48
      · skip
        rw [if_pos c_3] at hf
        refine lv_aload_n hx hb dX18_places_28 rfl (lv_at hl 0 rfl) ?_
        obtain ⟨g_6, hf⟩ := grd_some hf
        obtain ⟨kg_6, sg_6⟩ := okO_at g_6
        refine va_get (D := (dC, dI)) (ci := 18) (v := .int (z.1 h0 9)) (C := RX18) (T := TX18) (N := 78) hx hb hts iwd_X18_places_X18 hown hK hP h0 (Wd_ob kg_6 sg_6 (by decide)) rfl 9 (by decide) (hts _ md_X18_places_2) (fun _ h9 => h9) (fl_at (t := 0) rfl) dX18_places_29 ?_
        refine lv_goto (tgt := 48) hx hb dX18_places_32 (by decide) ?_
        obtain ⟨h8, h9⟩ := ret_some hf
        rw [h8, h9]
        exact W.iret (v := (z.1 h0 9)) hx hb hr (fun t ht hW => ⟨⟨(z.1 h0 9), (), rfl, rfl, by rw [ht]; exact hP, va_K.moved hW.alike hK, hD⟩, hS.F ht⟩) hS.2.2 dX18_places_48
    · skip
      rw [if_pos c_2] at hf
      refine lv_aload_n hx hb dX18_places_16 rfl (lv_at hl 0 rfl) ?_
      obtain ⟨g_7, hf⟩ := grd_some hf
      obtain ⟨kg_7, sg_7⟩ := okO_at g_7
      refine va_get (D := (dC, dI)) (ci := 18) (v := .int (z.1 h0 5)) (C := RX18) (T := TX18) (N := 78) hx hb hts iwd_X18_places_X18 hown hK hP h0 (Wd_ob kg_7 sg_7 (by decide)) rfl 5 (by decide) (hts _ md_X18_places_1) (fun _ h9 => h9) (fl_at (t := 0) rfl) dX18_places_17 ?_
      refine lv_goto (tgt := 48) hx hb dX18_places_20 (by decide) ?_
      obtain ⟨h8, h9⟩ := ret_some hf
      rw [h8, h9]
      exact W.iret (v := (z.1 h0 5)) hx hb hr (fun t ht hW => ⟨⟨(z.1 h0 5), (), rfl, rfl, by rw [ht]; exact hP, va_K.moved hW.alike hK, hD⟩, hS.F ht⟩) hS.2.2 dX18_places_48
  · skip
    rw [if_pos c_1] at hf
    refine lv_aload_n hx hb dX18_places_4 rfl (lv_at hl 0 rfl) ?_
    obtain ⟨g_10, hf⟩ := grd_some hf
    obtain ⟨kg_10, sg_10⟩ := okO_at g_10
    obtain ⟨z_8, r_9, hfc, hf⟩ := cal_some hf
    have hFc := de_free hD hS hA
    refine va_calli (va_runV (As := []) (rest := []) ⟨hx, hb, hml, hown, hts⟩ (de_X18_placeCount l dC dI cy a sh n H.size F z h0 hfc) (cwV 0 hts gX18_places_X18_placeCount rfl rfl rfl (by decide +kernel) ⟨Nat.le_of_ble_eq_true rfl, Nat.le_of_ble_eq_true rfl⟩) ⟨fun a U g mk q => by obtain ⟨q0, q1, qP, qK, qD, qN⟩ := q; exact ⟨q0, q1, qP, va_K.moved (u := U) (U := U.calling g mk a) (Vm.Alike.refl U.vm) qK, qD, qN.same rfl⟩, va_recv hK hP (ci := 18) (q0 := h0) rfl (Wd_ob kg_10 sg_10 (by decide)), fun U hU hW => ⟨rfl, by rw [hU], by rw [hU]; exact hP, va_K.moved hW.alike hK, hD.weaken (fun _ _ _ _ => trivial), hN.warm hW⟩⟩ rfl rfl hl.1 rfl (lv_room (Nat.le_of_ble_eq_true rfl)) dX18_places_5 ⟨Nat.le_of_ble_eq_true rfl, Nat.le_of_ble_eq_true rfl⟩) hS (fun q _ h => hFc q h) hFc (fun rr u t H_11 locs ht hvm hw hB hz1 hk1 hS2 => ?_)
    rw [hw]
    clear hw
    obtain ⟨hP1, -, hD1⟩ := hB
    rw [ht] at hP1
    replace hD := hD1.weaken (fun _ _ _ h => hFc _ h)
    replace hP := hP1
    replace hS := hS2
    clear hP1 hD1 hS2 hFc hfc hz1 hk1 hvm ht
    refine lv_goto (tgt := 48) hx hb dX18_places_8 (by decide) ?_
    obtain ⟨h8, h9⟩ := ret_some hf
    rw [h8, h9]
    exact W.iret (v := r_9) hx hb hr (fun t ht hW => ⟨⟨r_9, (), rfl, rfl, by rw [ht]; exact hP, va_K.moved hW.alike hK, hD⟩, hS.F ht⟩) hS.2.2 dX18_places_48

theorem tbd_0_3 {x : Int32} (h0 : ¬ x = 0) (h1 : ¬ x = 1) (h2 : ¬ x = 2) (h3 : ¬ x = 3) : x.toInt < 0 ∨ 3 < x.toInt := by
  have a0 : x.toInt ≠ 0 := tbd_ne h0
  have a1 : x.toInt ≠ 1 := tbd_ne h1
  have a2 : x.toInt ≠ 2 := tbd_ne h2
  have a3 : x.toInt ≠ 3 := tbd_ne h3
  omega
theorem md_X11_places_1 : (.fieldLink RX11 22 "ResourceLedger" "state" "LResourceLedger$State;" : Cond) ∈ wsX11_places := List.mem_of_getElem? (i := 1) rfl
theorem iwd_X11_places_X11 : ∀ w ∈ wsX110, w ∈ wsX11_places := fun _ h => List.mem_cons_of_mem _ (List.mem_append_left _ (List.mem_append_right _ h))
theorem md_X11_places_2 : (.fieldLink RX11 209 "ResourceLedger$State" "moduleCount" "I" : Cond) ∈ wsX11_places := List.mem_of_getElem? (i := 2) rfl
theorem iwd_X11_places_X7 : ∀ w ∈ wsX70, w ∈ wsX11_places := fun _ h => List.mem_cons_of_mem _ (List.mem_append_right _ h)
theorem md_X11_places_3 : (.fieldLink RX11 268 "ResourceLedger$State" "resourceCount" "I" : Cond) ∈ wsX11_places := List.mem_of_getElem? (i := 3) rfl
theorem md_X11_places_4 : (.fieldLink RX11 271 "ResourceLedger$State" "accountCount" "I" : Cond) ∈ wsX11_places := List.mem_of_getElem? (i := 4) rfl
def fn_X11_places (F : Nat) (sh : Nat → Nat × Nat) (n : Nat) (z : St) (h0 : Nat) (x0 : Int32) : Option (St × Int32) := if (x0 : Int32) = 0 then grd (okO sh n h0 11) (lnk (z.2.2 h0 6) (fun k_3 => grd (okO sh n k_3 7) (cal (fn_X7_placeCount F sh n z k_3) (fun z_4 r_5 => some (z_4, r_5))))) else if (x0 : Int32) = 1 then grd (okO sh n h0 11) (lnk (z.2.2 h0 6) (fun k_10 => grd (okO sh n k_10 7) (some (z, (z.1 k_10 5))))) else if (x0 : Int32) = 2 then grd (okO sh n h0 11) (lnk (z.2.2 h0 6) (fun k_14 => grd (okO sh n k_14 7) (some (z, (z.1 k_14 10))))) else if (x0 : Int32) = 3 then grd (okO sh n h0 11) (lnk (z.2.2 h0 6) (fun k_18 => grd (okO sh n k_18 7) (some (z, (z.1 k_18 3))))) else some (z, (-1))
set_option maxHeartbeats 4000000 in
set_option maxRecDepth 100000 in
theorem de_X11_places (l : Launch) (dC : Nat → ClassId) (dI : Nat → Nat → Nat) (cy : Nat → ClassId) (a : Nat → Nat) (sh : Nat → Nat × Nat) (n sz : Nat) (F : Nat) (z : St) (h0 : Nat) (x0 : Int32) {z8 : St} {r8 : Int32} (hf : fn_X11_places F sh n z h0 x0 = some (z8, r8)) : Met l yX11_places wsX11_places ({ frames := 1, cells := 0, slots := 0, locals := 20 }) (va_Pc [.ref (a h0), .int x0] (fun U => U.heap.size = sz ∧ va_P (dC, dI) vwCl (Wd cy a sh n z) U.heap ∧ va_K (dC, dI) vwCl (TYS cy) U ∧ va_D (fun _ => True) (Wd cy a sh n z) ∧ NK U)) (va_Qi (fun (r9 : Int32) (u : Unit) => r9 = r8) (fun u t => va_P (dC, dI) vwCl (Wd cy a sh n z8) t.heap ∧ va_K (dC, dI) vwCl (TYS cy) t ∧ va_D (va_A (Wd cy a sh n z) sz) (Wd cy a sh n z8)) (va_A (Wd cy a sh n z) sz)) 0 0 (va_A (Wd cy a sh n z) sz) := by
  refine Met.ofW (cc := cX11_places) (maxL := 2) (ret := (some .int)) (by decide) rfl ?_
  intro p e s m args below meth c s₁ B hml hv
  obtain ⟨rfl, hsz, hP, hK, hD0, hN⟩ := hv
  have hx := B.exec
  have hb := B.bytes
  have hr := B.returns
  have hts := atoms_spec (ws := wsX11_places) B.pre
  have hown : s.vm.findClass RX11 = some m.cls := findClass_of_methodNamed B.named
  have hlocks := B.notSynchronized
  subst hsz
  have hD := hD0.self (sz := s.heap.size)
  clear hD0
  generalize hAe : va_A (Wd cy a sh n z) s.heap.size = A at hD ⊢
  have hA : ∀ q : Nat, s.heap.size ≤ q → A q := fun q h => by rw [← hAe]; exact Or.inr h
  clear hAe
  have hS : va_S A s.heap s.heap [] := va_S.rf
  have hl := lv_entry ([.ref (a h0), .int x0]) (n := 2) (Nat.le_of_ble_eq_true rfl)
  rw [lg_entry_eq]
  generalize (lg_sl ([.ref (a h0), .int x0]) ++ List.replicate (2 - (lg_sl ([.ref (a h0), .int x0])).length) Slot.unset).toArray = ls at hl ⊢
  replace hl : lv_has ls 2 [(0, .ref (a h0)), (1, .int x0)] := hl
  unfold fn_X11_places at hf
  refine de_start hS hP (fun H locs hS hP => ?_)
  refine lv_iload_n hx hb dX11_places_0 rfl (lv_at hl 1 rfl) ?_
  by_cases c_1 : x0 = 0
  · skip
    rw [if_pos c_1] at hf
    refine lv_tableIn (tgt := 32) hx hb dX11_places_1 (by rw [c_1]; decide) (by rw [c_1]; decide) (by rw [c_1]; rfl) (by decide) ?_
    refine lv_aload_n hx hb dX11_places_32 rfl (lv_at hl 0 rfl) ?_
    obtain ⟨g_2, hf⟩ := grd_some hf
    obtain ⟨kg_2, sg_2⟩ := okO_at g_2
    obtain ⟨k_3, ek_3, hf⟩ := lnk_some hf
    refine va_get (D := (dC, dI)) (ci := 11) (v := .ref (a k_3)) (C := RX11) (T := TX11) (N := 13) hx hb hts iwd_X11_places_X11 hown hK hP h0 (Wd_ob kg_2 sg_2 (by decide)) rfl 6 (by decide) (hts _ md_X11_places_1) (fun _ h9 => h9) (fl_q rfl ek_3) dX11_places_33 ?_
    obtain ⟨g_6, hf⟩ := grd_some hf
    obtain ⟨kg_6, sg_6⟩ := okO_at g_6
    obtain ⟨z_4, r_5, hfc, hf⟩ := cal_some hf
    have hFc := de_free hD hS hA
    refine va_calli (va_runV (As := []) (rest := []) ⟨hx, hb, hml, hown, hts⟩ (de_X7_placeCount l dC dI cy a sh n H.size F z k_3 hfc) (cwV 0 hts gX11_places_X7_placeCount rfl rfl rfl (by decide +kernel) ⟨Nat.le_of_ble_eq_true rfl, Nat.le_of_ble_eq_true rfl⟩) ⟨fun a U g mk q => by obtain ⟨q0, q1, qP, qK, qD, qN⟩ := q; exact ⟨q0, q1, qP, va_K.moved (u := U) (U := U.calling g mk a) (Vm.Alike.refl U.vm) qK, qD, qN.same rfl⟩, va_recv hK hP (ci := 7) (q0 := k_3) rfl (Wd_ob kg_6 sg_6 (by decide)), fun U hU hW => ⟨rfl, by rw [hU], by rw [hU]; exact hP, va_K.moved hW.alike hK, hD.weaken (fun _ _ _ _ => trivial), hN.warm hW⟩⟩ rfl rfl hl.1 rfl (lv_room (Nat.le_of_ble_eq_true rfl)) dX11_places_36 ⟨Nat.le_of_ble_eq_true rfl, Nat.le_of_ble_eq_true rfl⟩) hS (fun q _ h => hFc q h) hFc (fun rr u t H_7 locs ht hvm hw hB hz1 hk1 hS2 => ?_)
    rw [hw]
    clear hw
    obtain ⟨hP1, -, hD1⟩ := hB
    rw [ht] at hP1
    replace hD := hD1.weaken (fun _ _ _ h => hFc _ h)
    replace hP := hP1
    replace hS := hS2
    clear hP1 hD1 hS2 hFc hfc hz1 hk1 hvm ht
    obtain ⟨h8, h9⟩ := ret_some hf
    rw [h8, h9]
    exact W.iret (v := r_5) hx hb hr (fun t ht hW => ⟨⟨r_5, (), rfl, rfl, by rw [ht]; exact hP, va_K.moved hW.alike hK, hD⟩, hS.F ht⟩) hS.2.2 dX11_places_39
  rw [if_neg c_1] at hf
  by_cases c_8 : x0 = 1
  · skip
    rw [if_pos c_8] at hf
    refine lv_tableIn (tgt := 40) hx hb dX11_places_1 (by rw [c_8]; decide) (by rw [c_8]; decide) (by rw [c_8]; rfl) (by decide) ?_
    refine lv_aload_n hx hb dX11_places_40 rfl (lv_at hl 0 rfl) ?_
    obtain ⟨g_9, hf⟩ := grd_some hf
    obtain ⟨kg_9, sg_9⟩ := okO_at g_9
    obtain ⟨k_10, ek_10, hf⟩ := lnk_some hf
    refine va_get (D := (dC, dI)) (ci := 11) (v := .ref (a k_10)) (C := RX11) (T := TX11) (N := 13) hx hb hts iwd_X11_places_X11 hown hK hP h0 (Wd_ob kg_9 sg_9 (by decide)) rfl 6 (by decide) (hts _ md_X11_places_1) (fun _ h9 => h9) (fl_q rfl ek_10) dX11_places_41 ?_
    obtain ⟨g_11, hf⟩ := grd_some hf
    obtain ⟨kg_11, sg_11⟩ := okO_at g_11
    refine va_get (D := (dC, dI)) (ci := 7) (v := .int (z.1 k_10 5)) (C := RX7) (T := TX7) (N := 16) hx hb hts iwd_X11_places_X7 hown hK hP k_10 (Wd_ob kg_11 sg_11 (by decide)) rfl 5 (by decide) (hts _ md_X11_places_2) (fun _ h9 => h9) (fl_at (t := 0) rfl) dX11_places_44 ?_
    obtain ⟨h8, h9⟩ := ret_some hf
    rw [h8, h9]
    exact W.iret (v := (z.1 k_10 5)) hx hb hr (fun t ht hW => ⟨⟨(z.1 k_10 5), (), rfl, rfl, by rw [ht]; exact hP, va_K.moved hW.alike hK, hD⟩, hS.F ht⟩) hS.2.2 dX11_places_47
  rw [if_neg c_8] at hf
  by_cases c_12 : x0 = 2
  · skip
    rw [if_pos c_12] at hf
    refine lv_tableIn (tgt := 48) hx hb dX11_places_1 (by rw [c_12]; decide) (by rw [c_12]; decide) (by rw [c_12]; rfl) (by decide) ?_
    refine lv_aload_n hx hb dX11_places_48 rfl (lv_at hl 0 rfl) ?_
    obtain ⟨g_13, hf⟩ := grd_some hf
    obtain ⟨kg_13, sg_13⟩ := okO_at g_13
    obtain ⟨k_14, ek_14, hf⟩ := lnk_some hf
    refine va_get (D := (dC, dI)) (ci := 11) (v := .ref (a k_14)) (C := RX11) (T := TX11) (N := 13) hx hb hts iwd_X11_places_X11 hown hK hP h0 (Wd_ob kg_13 sg_13 (by decide)) rfl 6 (by decide) (hts _ md_X11_places_1) (fun _ h9 => h9) (fl_q rfl ek_14) dX11_places_49 ?_
    obtain ⟨g_15, hf⟩ := grd_some hf
    obtain ⟨kg_15, sg_15⟩ := okO_at g_15
    refine va_get (D := (dC, dI)) (ci := 7) (v := .int (z.1 k_14 10)) (C := RX7) (T := TX7) (N := 16) hx hb hts iwd_X11_places_X7 hown hK hP k_14 (Wd_ob kg_15 sg_15 (by decide)) rfl 10 (by decide) (hts _ md_X11_places_3) (fun _ h9 => h9) (fl_at (t := 0) rfl) dX11_places_52 ?_
    obtain ⟨h8, h9⟩ := ret_some hf
    rw [h8, h9]
    exact W.iret (v := (z.1 k_14 10)) hx hb hr (fun t ht hW => ⟨⟨(z.1 k_14 10), (), rfl, rfl, by rw [ht]; exact hP, va_K.moved hW.alike hK, hD⟩, hS.F ht⟩) hS.2.2 dX11_places_55
  rw [if_neg c_12] at hf
  by_cases c_16 : x0 = 3
  · skip
    rw [if_pos c_16] at hf
    refine lv_tableIn (tgt := 56) hx hb dX11_places_1 (by rw [c_16]; decide) (by rw [c_16]; decide) (by rw [c_16]; rfl) (by decide) ?_
    refine lv_aload_n hx hb dX11_places_56 rfl (lv_at hl 0 rfl) ?_
    obtain ⟨g_17, hf⟩ := grd_some hf
    obtain ⟨kg_17, sg_17⟩ := okO_at g_17
    obtain ⟨k_18, ek_18, hf⟩ := lnk_some hf
    refine va_get (D := (dC, dI)) (ci := 11) (v := .ref (a k_18)) (C := RX11) (T := TX11) (N := 13) hx hb hts iwd_X11_places_X11 hown hK hP h0 (Wd_ob kg_17 sg_17 (by decide)) rfl 6 (by decide) (hts _ md_X11_places_1) (fun _ h9 => h9) (fl_q rfl ek_18) dX11_places_57 ?_
    obtain ⟨g_19, hf⟩ := grd_some hf
    obtain ⟨kg_19, sg_19⟩ := okO_at g_19
    refine va_get (D := (dC, dI)) (ci := 7) (v := .int (z.1 k_18 3)) (C := RX7) (T := TX7) (N := 16) hx hb hts iwd_X11_places_X7 hown hK hP k_18 (Wd_ob kg_19 sg_19 (by decide)) rfl 3 (by decide) (hts _ md_X11_places_4) (fun _ h9 => h9) (fl_at (t := 0) rfl) dX11_places_60 ?_
    obtain ⟨h8, h9⟩ := ret_some hf
    rw [h8, h9]
    exact W.iret (v := (z.1 k_18 3)) hx hb hr (fun t ht hW => ⟨⟨(z.1 k_18 3), (), rfl, rfl, by rw [ht]; exact hP, va_K.moved hW.alike hK, hD⟩, hS.F ht⟩) hS.2.2 dX11_places_63
  rw [if_neg c_16] at hf
  refine lv_tableOut (tgt := 64) hx hb dX11_places_1 (tbd_0_3 c_1 c_8 c_12 c_16) (by decide) ?_
  refine lv_iconst (v := (-1)) hx hb dX11_places_64 (by decide) ?_
  obtain ⟨h8, h9⟩ := ret_some hf
  rw [h8, h9]
  exact W.iret (v := (-1)) hx hb hr (fun t ht hW => ⟨⟨(-1), (), rfl, rfl, by rw [ht]; exact hP, va_K.moved hW.alike hK, hD⟩, hS.F ht⟩) hS.2.2 dX11_places_65

theorem md_X18_add_1 : (.fieldLink RX18 626 "ResourceLedgerModel" "count" "I" : Cond) ∈ wsX18_add := List.mem_of_getElem? (i := 1) rfl
theorem iwd_X18_add_X18 : ∀ w ∈ wsX180, w ∈ wsX18_add := fun _ h => List.mem_cons_of_mem _ (List.mem_append_right _ h)
theorem md_X18_add_2 : (.fieldLink RX18 538 "ResourceLedgerModel" "sorts" "[I" : Cond) ∈ wsX18_add := List.mem_of_getElem? (i := 2) rfl
theorem md_X18_add_3 : (.fieldLink RX18 541 "ResourceLedgerModel" "senders" "[J" : Cond) ∈ wsX18_add := List.mem_of_getElem? (i := 3) rfl
theorem md_X18_add_4 : (.fieldLink RX18 544 "ResourceLedgerModel" "turns" "[J" : Cond) ∈ wsX18_add := List.mem_of_getElem? (i := 4) rfl
theorem md_X18_add_5 : (.fieldLink RX18 547 "ResourceLedgerModel" "limits" "[I" : Cond) ∈ wsX18_add := List.mem_of_getElem? (i := 5) rfl
theorem md_X18_add_6 : (.fieldLink RX18 556 "ResourceLedgerModel" "argumentCounts" "[I" : Cond) ∈ wsX18_add := List.mem_of_getElem? (i := 6) rfl
def fn_X18_add (F : Nat) (sh : Nat → Nat × Nat) (n : Nat) (z : St) (h0 : Nat) (x0 : Int32) (x1 : Int64) (x2 : Int64) (x3 : Int32) : Option (St × Int32) := grd (okO sh n h0 18) (lt_ (z.1 h0 52) (fun v_2 => lt_ (si z h0 52 ((z.1 h0 52) + 1)) (fun z_4 => lnk (z_4.2.2 h0 54) (fun k_5 => grd (okA sh n k_5 101 v_2) (lt_ (si z_4 k_5 v_2.toNatClampNeg x0) (fun z_8 => lnk (z_8.2.2 h0 55) (fun k_9 => grd (okA sh n k_9 102 v_2) (lt_ (sl z_8 k_9 v_2.toNatClampNeg x1) (fun z_12 => lnk (z_12.2.2 h0 56) (fun k_13 => grd (okA sh n k_13 102 v_2) (lt_ (sl z_12 k_13 v_2.toNatClampNeg x2) (fun z_16 => lnk (z_16.2.2 h0 57) (fun k_17 => grd (okA sh n k_17 101 v_2) (lt_ (si z_16 k_17 v_2.toNatClampNeg x3) (fun z_20 => lnk (z_20.2.2 h0 60) (fun k_21 => grd (okA sh n k_21 101 v_2) (lt_ (si z_20 k_21 v_2.toNatClampNeg 0) (fun z_24 => some (z_24, v_2)))))))))))))))))))
set_option maxHeartbeats 4000000 in
set_option maxRecDepth 100000 in
theorem de_X18_add (l : Launch) (dC : Nat → ClassId) (dI : Nat → Nat → Nat) (cy : Nat → ClassId) (a : Nat → Nat) (sh : Nat → Nat × Nat) (n sz : Nat) (F : Nat) (z : St) (h0 : Nat) (x0 : Int32) (x1 : Int64) (x2 : Int64) (x3 : Int32) {z8 : St} {r8 : Int32} (hf : fn_X18_add F sh n z h0 x0 x1 x2 x3 = some (z8, r8)) : Met l yX18_add wsX18_add ({ frames := 0, cells := 0, slots := 0, locals := 0 }) (va_Pc [.ref (a h0), .int x0, .long x1, .long x2, .int x3] (fun U => U.heap.size = sz ∧ va_P (dC, dI) vwCl (Wd cy a sh n z) U.heap ∧ va_K (dC, dI) vwCl (TYS cy) U ∧ va_D (fun _ => True) (Wd cy a sh n z) ∧ NK U)) (va_Qi (fun (r9 : Int32) (u : Unit) => r9 = r8) (fun u t => va_P (dC, dI) vwCl (Wd cy a sh n z8) t.heap ∧ va_K (dC, dI) vwCl (TYS cy) t ∧ va_D (va_A (Wd cy a sh n z) sz) (Wd cy a sh n z8)) (va_A (Wd cy a sh n z) sz)) 0 0 (va_A (Wd cy a sh n z) sz) := by
  refine Met.ofW (cc := cX18_add) (maxL := 8) (ret := (some .int)) (by decide) rfl ?_
  intro p e s m args below meth c s₁ B hml hv
  obtain ⟨rfl, hsz, hP, hK, hD0, hN⟩ := hv
  have hx := B.exec
  have hb := B.bytes
  have hr := B.returns
  have hts := atoms_spec (ws := wsX18_add) B.pre
  have hown : s.vm.findClass RX18 = some m.cls := findClass_of_methodNamed B.named
  have hlocks := B.notSynchronized
  subst hsz
  have hD := hD0.self (sz := s.heap.size)
  clear hD0
  generalize hAe : va_A (Wd cy a sh n z) s.heap.size = A at hD ⊢
  have hA : ∀ q : Nat, s.heap.size ≤ q → A q := fun q h => by rw [← hAe]; exact Or.inr h
  clear hAe
  have hS : va_S A s.heap s.heap [] := va_S.rf
  have hl := lv_entry ([.ref (a h0), .int x0, .long x1, .long x2, .int x3]) (n := 8) (Nat.le_of_ble_eq_true rfl)
  rw [lg_entry_eq]
  generalize (lg_sl ([.ref (a h0), .int x0, .long x1, .long x2, .int x3]) ++ List.replicate (8 - (lg_sl ([.ref (a h0), .int x0, .long x1, .long x2, .int x3])).length) Slot.unset).toArray = ls at hl ⊢
  replace hl : lv_has ls 8 [(0, .ref (a h0)), (1, .int x0), (2, .long x1), (4, .long x2), (6, .int x3)] := hl
  unfold fn_X18_add at hf
  refine de_start hS hP (fun H locs hS hP => ?_)
  refine lv_aload_n hx hb dX18_add_0 rfl (lv_at hl 0 rfl) ?_
  obtain ⟨g_1, hf⟩ := grd_some hf
  obtain ⟨kg_1, sg_1⟩ := okO_at g_1
  refine va_get (D := (dC, dI)) (ci := 18) (v := .int (z.1 h0 52)) (C := RX18) (T := TX18) (N := 78) hx hb hts iwd_X18_add_X18 hown hK hP h0 (Wd_ob kg_1 sg_1 (by decide)) rfl 52 (by decide) (hts _ md_X18_add_1) (fun _ h9 => h9) (fl_at (t := 0) rfl) dX18_add_1 ?_
  refine lv_topi (fun v_2 ev_2 => ?_)
  replace hf := lt_at ev_2 hf
  clear ev_2
  refine lv_istore (lv' := [(7, .int v_2), (0, .ref (a h0)), (1, .int x0), (2, .long x1), (4, .long x2), (6, .int x3)]) hx hb dX18_add_4 hl (by decide) rfl (fun ls hl2 => ?_)
  replace hl := hl2
  clear hl2
  refine lv_aload_n hx hb dX18_add_6 rfl (lv_at hl 1 rfl) ?_
  refine lv_dup hx hb dX18_add_7 rfl ?_
  refine va_get (D := (dC, dI)) (ci := 18) (v := .int (z.1 h0 52)) (C := RX18) (T := TX18) (N := 78) hx hb hts iwd_X18_add_X18 hown hK hP h0 (Wd_ob kg_1 sg_1 (by decide)) rfl 52 (by decide) (hts _ md_X18_add_1) (fun _ h9 => h9) (fl_at (t := 0) rfl) dX18_add_8 ?_
  refine lv_iconst (v := 1) hx hb dX18_add_11 (by decide) ?_
  refine lv_iadd hx hb dX18_add_12 ?_
  refine va_put (D := (dC, dI)) (ci := 18) (v := .int ((z.1 h0 52) + 1)) (ty := .int) (C := RX18) (T := TX18) (N := 78) hx hb hts iwd_X18_add_X18 tyX18 tyX18_ok nmX18 hown hK hP hD hS h0 (Wd_ob kg_1 sg_1 (by decide)) rfl 52 (by decide) (hts _ md_X18_add_1) (fun _ h9 => h9) rfl (by decide +kernel) rfl rfl (by rw [fl_len]; decide) dX18_add_13 (fun H_3 locs hP2 hD2 hS2 => ?_)
  rw [Wd_si sg_1 (by decide) rfl] at hP2 hD2
  obtain ⟨z_4, ez_4⟩ : ∃ w, w = si z h0 52 ((z.1 h0 52) + 1) := ⟨_, rfl⟩
  rw [← ez_4] at hP2 hD2
  replace hf := lt_at ez_4 hf
  clear ez_4
  replace hP := hP2
  replace hD := hD2
  replace hS := hS2
  clear hP2 hD2 hS2
  refine lv_aload_n hx hb dX18_add_16 rfl (lv_at hl 1 rfl) ?_
  obtain ⟨k_5, ek_5, hf⟩ := lnk_some hf
  refine va_get (D := (dC, dI)) (ci := 18) (v := .ref (a k_5)) (C := RX18) (T := TX18) (N := 78) hx hb hts iwd_X18_add_X18 hown hK hP h0 (Wd_ob kg_1 sg_1 (by decide)) rfl 54 (by decide) (hts _ md_X18_add_2) (fun _ h9 => h9) (fl_q rfl ek_5) dX18_add_17 ?_
  refine lv_iload hx hb dX18_add_20 (lv_at hl 0 rfl) ?_
  refine lv_iload_n hx hb dX18_add_22 rfl (lv_at hl 2 rfl) ?_
  obtain ⟨g_6, hf⟩ := grd_some hf
  obtain ⟨kg_6, sg_6, ig_6⟩ := okA_at g_6
  refine va_iast hx hb hK hP hD hS k_5 1 (Wd_ai kg_6 sg_6) rfl ig_6 dX18_add_23 (fun H_7 locs hP2 hD2 hS2 => ?_)
  rw [Wd_ti sg_6] at hP2 hD2
  obtain ⟨z_8, ez_8⟩ : ∃ w, w = si z_4 k_5 v_2.toNatClampNeg x0 := ⟨_, rfl⟩
  rw [← ez_8] at hP2 hD2
  replace hf := lt_at ez_8 hf
  clear ez_8
  replace hP := hP2
  replace hD := hD2
  replace hS := hS2
  clear hP2 hD2 hS2
  refine lv_aload_n hx hb dX18_add_24 rfl (lv_at hl 1 rfl) ?_
  obtain ⟨k_9, ek_9, hf⟩ := lnk_some hf
  refine va_get (D := (dC, dI)) (ci := 18) (v := .ref (a k_9)) (C := RX18) (T := TX18) (N := 78) hx hb hts iwd_X18_add_X18 hown hK hP h0 (Wd_ob kg_1 sg_1 (by decide)) rfl 55 (by decide) (hts _ md_X18_add_3) (fun _ h9 => h9) (fl_q rfl ek_9) dX18_add_25 ?_
  refine lv_iload hx hb dX18_add_28 (lv_at hl 0 rfl) ?_
  refine lv_lload_n hx hb dX18_add_30 rfl (lv_at hl 3 rfl) ?_
  obtain ⟨g_10, hf⟩ := grd_some hf
  obtain ⟨kg_10, sg_10, ig_10⟩ := okA_at g_10
  refine va_last hx hb hK hP hD hS k_9 2 (Wd_al kg_10 sg_10) rfl ig_10 dX18_add_31 (fun H_11 locs hP2 hD2 hS2 => ?_)
  rw [Wd_tl sg_10] at hP2 hD2
  obtain ⟨z_12, ez_12⟩ : ∃ w, w = sl z_8 k_9 v_2.toNatClampNeg x1 := ⟨_, rfl⟩
  rw [← ez_12] at hP2 hD2
  replace hf := lt_at ez_12 hf
  clear ez_12
  replace hP := hP2
  replace hD := hD2
  replace hS := hS2
  clear hP2 hD2 hS2
  refine lv_aload_n hx hb dX18_add_32 rfl (lv_at hl 1 rfl) ?_
  obtain ⟨k_13, ek_13, hf⟩ := lnk_some hf
  refine va_get (D := (dC, dI)) (ci := 18) (v := .ref (a k_13)) (C := RX18) (T := TX18) (N := 78) hx hb hts iwd_X18_add_X18 hown hK hP h0 (Wd_ob kg_1 sg_1 (by decide)) rfl 56 (by decide) (hts _ md_X18_add_4) (fun _ h9 => h9) (fl_q rfl ek_13) dX18_add_33 ?_
  refine lv_iload hx hb dX18_add_36 (lv_at hl 0 rfl) ?_
  refine lv_lload hx hb dX18_add_38 (lv_at hl 4 rfl) ?_
  obtain ⟨g_14, hf⟩ := grd_some hf
  obtain ⟨kg_14, sg_14, ig_14⟩ := okA_at g_14
  refine va_last hx hb hK hP hD hS k_13 2 (Wd_al kg_14 sg_14) rfl ig_14 dX18_add_40 (fun H_15 locs hP2 hD2 hS2 => ?_)
  rw [Wd_tl sg_14] at hP2 hD2
  obtain ⟨z_16, ez_16⟩ : ∃ w, w = sl z_12 k_13 v_2.toNatClampNeg x2 := ⟨_, rfl⟩
  rw [← ez_16] at hP2 hD2
  replace hf := lt_at ez_16 hf
  clear ez_16
  replace hP := hP2
  replace hD := hD2
  replace hS := hS2
  clear hP2 hD2 hS2
  refine lv_aload_n hx hb dX18_add_41 rfl (lv_at hl 1 rfl) ?_
  obtain ⟨k_17, ek_17, hf⟩ := lnk_some hf
  refine va_get (D := (dC, dI)) (ci := 18) (v := .ref (a k_17)) (C := RX18) (T := TX18) (N := 78) hx hb hts iwd_X18_add_X18 hown hK hP h0 (Wd_ob kg_1 sg_1 (by decide)) rfl 57 (by decide) (hts _ md_X18_add_5) (fun _ h9 => h9) (fl_q rfl ek_17) dX18_add_42 ?_
  refine lv_iload hx hb dX18_add_45 (lv_at hl 0 rfl) ?_
  refine lv_iload hx hb dX18_add_47 (lv_at hl 5 rfl) ?_
  obtain ⟨g_18, hf⟩ := grd_some hf
  obtain ⟨kg_18, sg_18, ig_18⟩ := okA_at g_18
  refine va_iast hx hb hK hP hD hS k_17 1 (Wd_ai kg_18 sg_18) rfl ig_18 dX18_add_49 (fun H_19 locs hP2 hD2 hS2 => ?_)
  rw [Wd_ti sg_18] at hP2 hD2
  obtain ⟨z_20, ez_20⟩ : ∃ w, w = si z_16 k_17 v_2.toNatClampNeg x3 := ⟨_, rfl⟩
  rw [← ez_20] at hP2 hD2
  replace hf := lt_at ez_20 hf
  clear ez_20
  replace hP := hP2
  replace hD := hD2
  replace hS := hS2
  clear hP2 hD2 hS2
  refine lv_aload_n hx hb dX18_add_50 rfl (lv_at hl 1 rfl) ?_
  obtain ⟨k_21, ek_21, hf⟩ := lnk_some hf
  refine va_get (D := (dC, dI)) (ci := 18) (v := .ref (a k_21)) (C := RX18) (T := TX18) (N := 78) hx hb hts iwd_X18_add_X18 hown hK hP h0 (Wd_ob kg_1 sg_1 (by decide)) rfl 60 (by decide) (hts _ md_X18_add_6) (fun _ h9 => h9) (fl_q rfl ek_21) dX18_add_51 ?_
  refine lv_iload hx hb dX18_add_54 (lv_at hl 0 rfl) ?_
  refine lv_iconst (v := 0) hx hb dX18_add_56 (by decide) ?_
  obtain ⟨g_22, hf⟩ := grd_some hf
  obtain ⟨kg_22, sg_22, ig_22⟩ := okA_at g_22
  refine va_iast hx hb hK hP hD hS k_21 1 (Wd_ai kg_22 sg_22) rfl ig_22 dX18_add_57 (fun H_23 locs hP2 hD2 hS2 => ?_)
  rw [Wd_ti sg_22] at hP2 hD2
  obtain ⟨z_24, ez_24⟩ : ∃ w, w = si z_20 k_21 v_2.toNatClampNeg 0 := ⟨_, rfl⟩
  rw [← ez_24] at hP2 hD2
  replace hf := lt_at ez_24 hf
  clear ez_24
  replace hP := hP2
  replace hD := hD2
  replace hS := hS2
  clear hP2 hD2 hS2
  refine lv_iload hx hb dX18_add_58 (lv_at hl 0 rfl) ?_
  obtain ⟨h8, h9⟩ := ret_some hf
  rw [h8, h9]
  exact W.iret (v := v_2) hx hb hr (fun t ht hW => ⟨⟨v_2, (), rfl, rfl, by rw [ht]; exact hP, va_K.moved hW.alike hK, hD⟩, hS.F ht⟩) hS.2.2 dX18_add_60

def fn_X18_isLimit (F : Nat) (sh : Nat → Nat × Nat) (n : Nat) (z : St) (x0 : Int32) : Option (St × Int32) := if (x0 : Int32) < 10 then some (z, 0) else if (20000 : Int32) < x0 then some (z, 0) else some (z, 1)
set_option maxHeartbeats 4000000 in
set_option maxRecDepth 100000 in
theorem de_X18_isLimit (l : Launch) (dC : Nat → ClassId) (dI : Nat → Nat → Nat) (cy : Nat → ClassId) (a : Nat → Nat) (sh : Nat → Nat × Nat) (n sz : Nat) (F : Nat) (z : St) (x0 : Int32) {z8 : St} {r8 : Int32} (hf : fn_X18_isLimit F sh n z x0 = some (z8, r8)) : Met l yX18_isLimit wsX18_isLimit ({ frames := 0, cells := 0, slots := 0, locals := 0 }) (va_Pc [.int x0] (fun U => U.heap.size = sz ∧ va_P (dC, dI) vwCl (Wd cy a sh n z) U.heap ∧ va_K (dC, dI) vwCl (TYS cy) U ∧ va_D (fun _ => True) (Wd cy a sh n z) ∧ NK U)) (va_Qi (fun (r9 : Int32) (u : Unit) => r9 = r8) (fun u t => va_P (dC, dI) vwCl (Wd cy a sh n z8) t.heap ∧ va_K (dC, dI) vwCl (TYS cy) t ∧ va_D (va_A (Wd cy a sh n z) sz) (Wd cy a sh n z8)) (va_A (Wd cy a sh n z) sz)) 0 0 (va_A (Wd cy a sh n z) sz) := by
  refine Met.ofW (cc := cX18_isLimit) (maxL := 1) (ret := (some .boolean)) (by decide) rfl ?_
  intro p e s m args below meth c s₁ B hml hv
  obtain ⟨rfl, hsz, hP, hK, hD0, hN⟩ := hv
  have hx := B.exec
  have hb := B.bytes
  have hr := B.returns
  have hts := atoms_spec (ws := wsX18_isLimit) B.pre
  have hown : s.vm.findClass RX18 = some m.cls := findClass_of_methodNamed B.named
  have hlocks := B.notSynchronized
  subst hsz
  have hD := hD0.self (sz := s.heap.size)
  clear hD0
  generalize hAe : va_A (Wd cy a sh n z) s.heap.size = A at hD ⊢
  have hA : ∀ q : Nat, s.heap.size ≤ q → A q := fun q h => by rw [← hAe]; exact Or.inr h
  clear hAe
  have hS : va_S A s.heap s.heap [] := va_S.rf
  have hl := lv_entry ([.int x0]) (n := 1) (Nat.le_of_ble_eq_true rfl)
  rw [lg_entry_eq]
  generalize (lg_sl ([.int x0]) ++ List.replicate (1 - (lg_sl ([.int x0])).length) Slot.unset).toArray = ls at hl ⊢
  replace hl : lv_has ls 1 [(0, .int x0)] := hl
  unfold fn_X18_isLimit at hf
  refine de_start hS hP (fun H locs hS hP => ?_)
  refine lv_iload_n hx hb dX18_isLimit_0 rfl (lv_at hl 0 rfl) ?_
  refine lv_bipush (v := 10) hx hb dX18_isLimit_1 (by decide) ?_
  refine lv_icmp_lt (tgt := 17) hx hb dX18_isLimit_3 (by decide) (fun c_1 => ?_) (fun c_1 => ?_)
  · skip
    rw [if_pos c_1] at hf
    refine lv_iconst (v := 0) hx hb dX18_isLimit_17 (by decide) ?_
    obtain ⟨h8, h9⟩ := ret_some hf
    rw [h8, h9]
    exact W.zret (v := 0) hx hb hr rfl (fun t ht hW => ⟨⟨0, (), rfl, rfl, by rw [ht]; exact hP, va_K.moved hW.alike hK, hD⟩, hS.F ht⟩) hS.2.2 dX18_isLimit_18
  · skip
    rw [if_neg c_1] at hf
    refine lv_iload_n hx hb dX18_isLimit_6 rfl (lv_at hl 0 rfl) ?_
    refine lv_sipush (v := 20000) hx hb dX18_isLimit_7 (by decide) ?_
    refine lv_icmp_gt (tgt := 17) hx hb dX18_isLimit_10 (by decide) (fun c_2 => ?_) (fun c_2 => ?_)
    · skip
      rw [if_pos c_2] at hf
      refine lv_iconst (v := 0) hx hb dX18_isLimit_17 (by decide) ?_
      obtain ⟨h8, h9⟩ := ret_some hf
      rw [h8, h9]
      exact W.zret (v := 0) hx hb hr rfl (fun t ht hW => ⟨⟨0, (), rfl, rfl, by rw [ht]; exact hP, va_K.moved hW.alike hK, hD⟩, hS.F ht⟩) hS.2.2 dX18_isLimit_18
    · skip
      rw [if_neg c_2] at hf
      refine lv_iconst (v := 1) hx hb dX18_isLimit_13 (by decide) ?_
      refine lv_goto (tgt := 18) hx hb dX18_isLimit_14 (by decide) ?_
      obtain ⟨h8, h9⟩ := ret_some hf
      rw [h8, h9]
      exact W.zret (v := 1) hx hb hr rfl (fun t ht hW => ⟨⟨1, (), rfl, rfl, by rw [ht]; exact hP, va_K.moved hW.alike hK, hD⟩, hS.F ht⟩) hS.2.2 dX18_isLimit_18

theorem md_X18_call_1 : (.constant RX18 637 (65535) : Cond) ∈ wsX18_call := List.mem_of_getElem? (i := 1) rfl
theorem md_X18_call_2 : (.fieldLink RX18 626 "ResourceLedgerModel" "count" "I" : Cond) ∈ wsX18_call := List.mem_of_getElem? (i := 2) rfl
theorem iwd_X18_call_X18 : ∀ w ∈ wsX180, w ∈ wsX18_call := fun _ h => List.mem_cons_of_mem _ (List.mem_append_right _ h)
theorem md_X18_call_3 : (.fieldLink RX18 550 "ResourceLedgerModel" "modulesCalled" "[I" : Cond) ∈ wsX18_call := List.mem_of_getElem? (i := 3) rfl
theorem md_X18_call_4 : (.fieldLink RX18 553 "ResourceLedgerModel" "functionsCalled" "[I" : Cond) ∈ wsX18_call := List.mem_of_getElem? (i := 4) rfl
def fn_X18_call (F : Nat) (sh : Nat → Nat × Nat) (n : Nat) (z : St) (h0 : Nat) (x0 : Int64) (x1 : Int64) (x2 : Int32) (x3 : Int32) (x4 : Int32) : Option (St × Int32) := cal (fn_X18_isLimit F sh n z x2) (fun z_1 r_2 => if (r_2 : Int32) = 0 then some (z_1, (-1)) else if (x3 : Int32) < 0 then some (z_1, (-1)) else if (65535 : Int32) < x3 then some (z_1, (-1)) else if (x4 : Int32) < 0 then some (z_1, (-1)) else if (x4 : Int32) ≤ 63 then grd (okO sh n h0 18) (if ((z_1.1 h0 52) : Int32) = 32 then some (z_1, (-3)) else cal (fn_X18_add F sh n z_1 h0 2 x0 x1 x2) (fun z_11 r_12 => lnk (z_11.2.2 h0 58) (fun k_14 => grd (okA sh n k_14 101 r_12) (lt_ (si z_11 k_14 r_12.toNatClampNeg x3) (fun z_17 => lnk (z_17.2.2 h0 59) (fun k_18 => grd (okA sh n k_18 101 r_12) (lt_ (si z_17 k_18 r_12.toNatClampNeg x4) (fun z_21 => some (z_21, r_12))))))))) else some (z_1, (-1)))
set_option maxHeartbeats 4000000 in
set_option maxRecDepth 100000 in
theorem de_X18_call (l : Launch) (dC : Nat → ClassId) (dI : Nat → Nat → Nat) (cy : Nat → ClassId) (a : Nat → Nat) (sh : Nat → Nat × Nat) (n sz : Nat) (F : Nat) (z : St) (h0 : Nat) (x0 : Int64) (x1 : Int64) (x2 : Int32) (x3 : Int32) (x4 : Int32) {z8 : St} {r8 : Int32} (hf : fn_X18_call F sh n z h0 x0 x1 x2 x3 x4 = some (z8, r8)) : Met l yX18_call wsX18_call ({ frames := 1, cells := 0, slots := 0, locals := 27 }) (va_Pc [.ref (a h0), .long x0, .long x1, .int x2, .int x3, .int x4] (fun U => U.heap.size = sz ∧ va_P (dC, dI) vwCl (Wd cy a sh n z) U.heap ∧ va_K (dC, dI) vwCl (TYS cy) U ∧ va_D (fun _ => True) (Wd cy a sh n z) ∧ NK U)) (va_Qi (fun (r9 : Int32) (u : Unit) => r9 = r8) (fun u t => va_P (dC, dI) vwCl (Wd cy a sh n z8) t.heap ∧ va_K (dC, dI) vwCl (TYS cy) t ∧ va_D (va_A (Wd cy a sh n z) sz) (Wd cy a sh n z8)) (va_A (Wd cy a sh n z) sz)) 0 0 (va_A (Wd cy a sh n z) sz) := by
  refine Met.ofW (cc := cX18_call) (maxL := 9) (ret := (some .int)) (by decide) rfl ?_
  intro p e s m args below meth c s₁ B hml hv
  obtain ⟨rfl, hsz, hP, hK, hD0, hN⟩ := hv
  have hx := B.exec
  have hb := B.bytes
  have hr := B.returns
  have hts := atoms_spec (ws := wsX18_call) B.pre
  have hown : s.vm.findClass RX18 = some m.cls := findClass_of_methodNamed B.named
  have hlocks := B.notSynchronized
  subst hsz
  have hD := hD0.self (sz := s.heap.size)
  clear hD0
  generalize hAe : va_A (Wd cy a sh n z) s.heap.size = A at hD ⊢
  have hA : ∀ q : Nat, s.heap.size ≤ q → A q := fun q h => by rw [← hAe]; exact Or.inr h
  clear hAe
  have hS : va_S A s.heap s.heap [] := va_S.rf
  have hl := lv_entry ([.ref (a h0), .long x0, .long x1, .int x2, .int x3, .int x4]) (n := 9) (Nat.le_of_ble_eq_true rfl)
  rw [lg_entry_eq]
  generalize (lg_sl ([.ref (a h0), .long x0, .long x1, .int x2, .int x3, .int x4]) ++ List.replicate (9 - (lg_sl ([.ref (a h0), .long x0, .long x1, .int x2, .int x3, .int x4])).length) Slot.unset).toArray = ls at hl ⊢
  replace hl : lv_has ls 9 [(0, .ref (a h0)), (1, .long x0), (3, .long x1), (5, .int x2), (6, .int x3), (7, .int x4)] := hl
  unfold fn_X18_call at hf
  refine de_start hS hP (fun H locs hS hP => ?_)
  refine lv_iload hx hb dX18_call_0 (lv_at hl 3 rfl) ?_
  obtain ⟨z_1, r_2, hfc, hf⟩ := cal_some hf
  have hFc := de_free hD hS hA
  refine va_calli (va_runS (As := [.int x2]) (rest := []) ⟨hx, hb, hml, hown, hts⟩ (de_X18_isLimit l dC dI cy a sh n H.size F z x2 hfc) (va_cwS 1 hts gX18_call_X18_isLimit rfl rfl rfl (by decide +kernel) ⟨Nat.le_of_ble_eq_true rfl, Nat.le_of_ble_eq_true rfl⟩) ⟨fun a U g mk q => by obtain ⟨q0, q1, qP, qK, qD, qN⟩ := q; exact ⟨q0, q1, qP, va_K.moved (u := U) (U := U.calling g mk a) (Vm.Alike.refl U.vm) qK, qD, qN.same rfl⟩, fun U hU hW => ⟨rfl, by rw [hU], by rw [hU]; exact hP, va_K.moved hW.alike hK, hD.weaken (fun _ _ _ _ => trivial), hN.warm hW⟩⟩ rfl rfl hl.1 rfl (lv_room (Nat.le_of_ble_eq_true rfl)) dX18_call_2 ⟨Nat.le_of_ble_eq_true rfl, Nat.le_of_ble_eq_true rfl⟩) hS (fun q _ h => hFc q h) hFc (fun rr u t H_3 locs ht hvm hw hB hz1 hk1 hS2 => ?_)
  rw [hw]
  clear hw
  obtain ⟨hP1, -, hD1⟩ := hB
  rw [ht] at hP1
  replace hD := hD1.weaken (fun _ _ _ h => hFc _ h)
  replace hP := hP1
  replace hS := hS2
  clear hP1 hD1 hS2 hFc hfc hz1 hk1 hvm ht
  refine lv_if_eq (tgt := 33) hx hb dX18_call_5 (by decide) (fun c_4 => ?_) (fun c_4 => ?_)
  · skip
    rw [if_pos c_4] at hf
    refine lv_iconst (v := (-1)) hx hb dX18_call_33 (by decide) ?_
    obtain ⟨h8, h9⟩ := ret_some hf
    rw [h8, h9]
    exact W.iret (v := (-1)) hx hb hr (fun t ht hW => ⟨⟨(-1), (), rfl, rfl, by rw [ht]; exact hP, va_K.moved hW.alike hK, hD⟩, hS.F ht⟩) hS.2.2 dX18_call_34
  · skip
    rw [if_neg c_4] at hf
    refine lv_iload hx hb dX18_call_8 (lv_at hl 4 rfl) ?_
    refine lv_if_lt (tgt := 33) hx hb dX18_call_10 (by decide) (fun c_5 => ?_) (fun c_5 => ?_)
    · skip
      rw [if_pos c_5] at hf
      refine lv_iconst (v := (-1)) hx hb dX18_call_33 (by decide) ?_
      obtain ⟨h8, h9⟩ := ret_some hf
      rw [h8, h9]
      exact W.iret (v := (-1)) hx hb hr (fun t ht hW => ⟨⟨(-1), (), rfl, rfl, by rw [ht]; exact hP, va_K.moved hW.alike hK, hD⟩, hS.F ht⟩) hS.2.2 dX18_call_34
    · skip
      rw [if_neg c_5] at hf
      refine lv_iload hx hb dX18_call_13 (lv_at hl 4 rfl) ?_
      refine lv_ldcw hx hb hown (hts _ md_X18_call_1) dX18_call_15 ?_
      refine lv_icmp_gt (tgt := 33) hx hb dX18_call_18 (by decide) (fun c_6 => ?_) (fun c_6 => ?_)
      · skip
        rw [if_pos c_6] at hf
        refine lv_iconst (v := (-1)) hx hb dX18_call_33 (by decide) ?_
        obtain ⟨h8, h9⟩ := ret_some hf
        rw [h8, h9]
        exact W.iret (v := (-1)) hx hb hr (fun t ht hW => ⟨⟨(-1), (), rfl, rfl, by rw [ht]; exact hP, va_K.moved hW.alike hK, hD⟩, hS.F ht⟩) hS.2.2 dX18_call_34
      · skip
        rw [if_neg c_6] at hf
        refine lv_iload hx hb dX18_call_21 (lv_at hl 5 rfl) ?_
        refine lv_if_lt (tgt := 33) hx hb dX18_call_23 (by decide) (fun c_7 => ?_) (fun c_7 => ?_)
        · skip
          rw [if_pos c_7] at hf
          refine lv_iconst (v := (-1)) hx hb dX18_call_33 (by decide) ?_
          obtain ⟨h8, h9⟩ := ret_some hf
          rw [h8, h9]
          exact W.iret (v := (-1)) hx hb hr (fun t ht hW => ⟨⟨(-1), (), rfl, rfl, by rw [ht]; exact hP, va_K.moved hW.alike hK, hD⟩, hS.F ht⟩) hS.2.2 dX18_call_34
        · skip
          rw [if_neg c_7] at hf
          refine lv_iload hx hb dX18_call_26 (lv_at hl 5 rfl) ?_
          refine lv_bipush (v := 63) hx hb dX18_call_28 (by decide) ?_
          refine lv_icmp_le (tgt := 35) hx hb dX18_call_30 (by decide) (fun c_8 => ?_) (fun c_8 => ?_)
          · skip
            rw [if_pos c_8] at hf
            refine lv_aload_n hx hb dX18_call_35 rfl (lv_at hl 0 rfl) ?_
            obtain ⟨g_9, hf⟩ := grd_some hf
            obtain ⟨kg_9, sg_9⟩ := okO_at g_9
            refine va_get (D := (dC, dI)) (ci := 18) (v := .int (z_1.1 h0 52)) (C := RX18) (T := TX18) (N := 78) hx hb hts iwd_X18_call_X18 hown hK hP h0 (Wd_ob kg_9 sg_9 (by decide)) rfl 52 (by decide) (hts _ md_X18_call_2) (fun _ h9 => h9) (fl_at (t := 0) rfl) dX18_call_36 ?_
            refine lv_bipush (v := 32) hx hb dX18_call_39 (by decide) ?_
            refine lv_icmp_ne (tgt := 47) hx hb dX18_call_41 (by decide) (fun c_10 => ?_) (fun c_10 => ?_)
            · skip
              rw [if_neg c_10] at hf
              refine lv_aload_n hx hb dX18_call_47 rfl (lv_at hl 0 rfl) ?_
              refine lv_iconst (v := 2) hx hb dX18_call_48 (by decide) ?_
              refine lv_lload_n hx hb dX18_call_49 rfl (lv_at hl 1 rfl) ?_
              refine lv_lload_n hx hb dX18_call_50 rfl (lv_at hl 2 rfl) ?_
              refine lv_iload hx hb dX18_call_51 (lv_at hl 3 rfl) ?_
              obtain ⟨z_11, r_12, hfc, hf⟩ := cal_some hf
              have hFc := de_free hD hS hA
              refine va_calli (va_runV (As := [.int 2, .long x0, .long x1, .int x2]) (rest := []) ⟨hx, hb, hml, hown, hts⟩ (de_X18_add l dC dI cy a sh n H_3.size F z_1 h0 2 x0 x1 x2 hfc) (cwV 4 hts gX18_call_X18_add rfl rfl rfl (by decide +kernel) ⟨Nat.le_of_ble_eq_true rfl, Nat.le_of_ble_eq_true rfl⟩) ⟨fun a U g mk q => by obtain ⟨q0, q1, qP, qK, qD, qN⟩ := q; exact ⟨q0, q1, qP, va_K.moved (u := U) (U := U.calling g mk a) (Vm.Alike.refl U.vm) qK, qD, qN.same rfl⟩, va_recv hK hP (ci := 18) (q0 := h0) rfl (Wd_ob kg_9 sg_9 (by decide)), fun U hU hW => ⟨rfl, by rw [hU], by rw [hU]; exact hP, va_K.moved hW.alike hK, hD.weaken (fun _ _ _ _ => trivial), hN.warm hW⟩⟩ rfl rfl hl.1 rfl (lv_room (Nat.le_of_ble_eq_true rfl)) dX18_call_53 ⟨Nat.le_of_ble_eq_true rfl, Nat.le_of_ble_eq_true rfl⟩) hS (fun q _ h => hFc q h) hFc (fun rr u t H_13 locs ht hvm hw hB hz1 hk1 hS2 => ?_)
              rw [hw]
              clear hw
              obtain ⟨hP1, -, hD1⟩ := hB
              rw [ht] at hP1
              replace hD := hD1.weaken (fun _ _ _ h => hFc _ h)
              replace hP := hP1
              replace hS := hS2
              clear hP1 hD1 hS2 hFc hfc hz1 hk1 hvm ht
              refine lv_istore (lv' := [(8, .int r_12), (0, .ref (a h0)), (1, .long x0), (3, .long x1), (5, .int x2), (6, .int x3), (7, .int x4)]) hx hb dX18_call_56 hl (by decide) rfl (fun ls hl2 => ?_)
              replace hl := hl2
              clear hl2
              refine lv_aload_n hx hb dX18_call_58 rfl (lv_at hl 1 rfl) ?_
              obtain ⟨k_14, ek_14, hf⟩ := lnk_some hf
              refine va_get (D := (dC, dI)) (ci := 18) (v := .ref (a k_14)) (C := RX18) (T := TX18) (N := 78) hx hb hts iwd_X18_call_X18 hown hK hP h0 (Wd_ob kg_9 sg_9 (by decide)) rfl 58 (by decide) (hts _ md_X18_call_3) (fun _ h9 => h9) (fl_q rfl ek_14) dX18_call_59 ?_
              refine lv_iload hx hb dX18_call_62 (lv_at hl 0 rfl) ?_
              refine lv_iload hx hb dX18_call_64 (lv_at hl 5 rfl) ?_
              obtain ⟨g_15, hf⟩ := grd_some hf
              obtain ⟨kg_15, sg_15, ig_15⟩ := okA_at g_15
              refine va_iast hx hb hK hP hD hS k_14 1 (Wd_ai kg_15 sg_15) rfl ig_15 dX18_call_66 (fun H_16 locs hP2 hD2 hS2 => ?_)
              rw [Wd_ti sg_15] at hP2 hD2
              obtain ⟨z_17, ez_17⟩ : ∃ w, w = si z_11 k_14 r_12.toNatClampNeg x3 := ⟨_, rfl⟩
              rw [← ez_17] at hP2 hD2
              replace hf := lt_at ez_17 hf
              clear ez_17
              replace hP := hP2
              replace hD := hD2
              replace hS := hS2
              clear hP2 hD2 hS2
              refine lv_aload_n hx hb dX18_call_67 rfl (lv_at hl 1 rfl) ?_
              obtain ⟨k_18, ek_18, hf⟩ := lnk_some hf
              refine va_get (D := (dC, dI)) (ci := 18) (v := .ref (a k_18)) (C := RX18) (T := TX18) (N := 78) hx hb hts iwd_X18_call_X18 hown hK hP h0 (Wd_ob kg_9 sg_9 (by decide)) rfl 59 (by decide) (hts _ md_X18_call_4) (fun _ h9 => h9) (fl_q rfl ek_18) dX18_call_68 ?_
              refine lv_iload hx hb dX18_call_71 (lv_at hl 0 rfl) ?_
              refine lv_iload hx hb dX18_call_73 (lv_at hl 6 rfl) ?_
              obtain ⟨g_19, hf⟩ := grd_some hf
              obtain ⟨kg_19, sg_19, ig_19⟩ := okA_at g_19
              refine va_iast hx hb hK hP hD hS k_18 1 (Wd_ai kg_19 sg_19) rfl ig_19 dX18_call_75 (fun H_20 locs hP2 hD2 hS2 => ?_)
              rw [Wd_ti sg_19] at hP2 hD2
              obtain ⟨z_21, ez_21⟩ : ∃ w, w = si z_17 k_18 r_12.toNatClampNeg x4 := ⟨_, rfl⟩
              rw [← ez_21] at hP2 hD2
              replace hf := lt_at ez_21 hf
              clear ez_21
              replace hP := hP2
              replace hD := hD2
              replace hS := hS2
              clear hP2 hD2 hS2
              refine lv_iload hx hb dX18_call_76 (lv_at hl 0 rfl) ?_
              obtain ⟨h8, h9⟩ := ret_some hf
              rw [h8, h9]
              exact W.iret (v := r_12) hx hb hr (fun t ht hW => ⟨⟨r_12, (), rfl, rfl, by rw [ht]; exact hP, va_K.moved hW.alike hK, hD⟩, hS.F ht⟩) hS.2.2 dX18_call_78
            · skip
              rw [if_pos c_10] at hf
              refine lv_bipush (v := (-3)) hx hb dX18_call_44 (by decide) ?_
              obtain ⟨h8, h9⟩ := ret_some hf
              rw [h8, h9]
              exact W.iret (v := (-3)) hx hb hr (fun t ht hW => ⟨⟨(-3), (), rfl, rfl, by rw [ht]; exact hP, va_K.moved hW.alike hK, hD⟩, hS.F ht⟩) hS.2.2 dX18_call_46
          · skip
            rw [if_neg c_8] at hf
            refine lv_iconst (v := (-1)) hx hb dX18_call_33 (by decide) ?_
            obtain ⟨h8, h9⟩ := ret_some hf
            rw [h8, h9]
            exact W.iret (v := (-1)) hx hb hr (fun t ht hW => ⟨⟨(-1), (), rfl, rfl, by rw [ht]; exact hP, va_K.moved hW.alike hK, hD⟩, hS.F ht⟩) hS.2.2 dX18_call_34

theorem md_X18_type_1 : (.fieldLink RX18 609 "ResourceLedgerModel" "tapeSize" "I" : Cond) ∈ wsX18_type := List.mem_of_getElem? (i := 1) rfl
theorem iwd_X18_type_X18 : ∀ w ∈ wsX180, w ∈ wsX18_type := fun _ h => List.mem_cons_of_mem _ (List.mem_append_right _ h)
theorem md_X18_type_2 : (.fieldLink RX18 535 "ResourceLedgerModel" "tape" "[B" : Cond) ∈ wsX18_type := List.mem_of_getElem? (i := 2) rfl
def fn_X18_type_L33 (F : Nat) (sh : Nat → Nat × Nat) (n : Nat) (h0 : Nat) (x0 : Int64) : Nat → St → Int32 → Option (St × Int32)
  | 0, _, _ => none
  | f_8 + 1, z_7, p_6 => if (p_6 : Int32) < 0 then some (z_7, (z_7.1 h0 50)) else lnk (z_7.2.2 h0 49) (fun k_10 => grd (okA sh n k_10 100 (z_7.1 h0 50)) (lt_ (si z_7 k_10 (z_7.1 h0 50).toNatClampNeg (vp_nar .byte ((((((x0 >>> (((8 * p_6) : Int32).toInt64 &&& 63))) : Int64).toInt32) : Int32).toInt8.toInt32))) (fun z_13 => lt_ (si z_13 h0 50 ((z_13.1 h0 50) + 1)) (fun z_15 => fn_X18_type_L33 F sh n h0 x0 f_8 z_15 (p_6 + (-1))))))
theorem fn_X18_type_L33_s {F : Nat} {sh : Nat → Nat × Nat} {n : Nat} {h0 : Nat} {x0 : Int64} {f_8 : Nat} {z_7 : St} {p_6 : Int32} {y : St × Int32} (h : fn_X18_type_L33 F sh n h0 x0 (f_8 + 1) z_7 p_6 = some y) : (if (p_6 : Int32) < 0 then some (z_7, (z_7.1 h0 50)) else lnk (z_7.2.2 h0 49) (fun k_10 => grd (okA sh n k_10 100 (z_7.1 h0 50)) (lt_ (si z_7 k_10 (z_7.1 h0 50).toNatClampNeg (vp_nar .byte ((((((x0 >>> (((8 * p_6) : Int32).toInt64 &&& 63))) : Int64).toInt32) : Int32).toInt8.toInt32))) (fun z_13 => lt_ (si z_13 h0 50 ((z_13.1 h0 50) + 1)) (fun z_15 => fn_X18_type_L33 F sh n h0 x0 f_8 z_15 (p_6 + (-1))))))) = some y := h
def fn_X18_type (F : Nat) (sh : Nat → Nat × Nat) (n : Nat) (z : St) (h0 : Nat) (x0 : Int64) (x1 : Int32) : Option (St × Int32) := if (x1 : Int32) < 1 then some (z, (-1)) else if (x1 : Int32) ≤ 8 then grd (okO sh n h0 18) (if (((z.1 h0 50) + x1) : Int32) ≤ 2048 then lt_ (x1 - 1) (fun v_5 => fn_X18_type_L33 F sh n h0 x0 F z v_5) else some (z, (-3))) else some (z, (-1))
set_option maxHeartbeats 4000000 in
set_option maxRecDepth 100000 in
theorem de_X18_type (l : Launch) (dC : Nat → ClassId) (dI : Nat → Nat → Nat) (cy : Nat → ClassId) (a : Nat → Nat) (sh : Nat → Nat × Nat) (n sz : Nat) (F : Nat) (z : St) (h0 : Nat) (x0 : Int64) (x1 : Int32) {z8 : St} {r8 : Int32} (hf : fn_X18_type F sh n z h0 x0 x1 = some (z8, r8)) : Met l yX18_type wsX18_type ({ frames := 0, cells := 0, slots := 0, locals := 0 }) (va_Pc [.ref (a h0), .long x0, .int x1] (fun U => U.heap.size = sz ∧ va_P (dC, dI) vwCl (Wd cy a sh n z) U.heap ∧ va_K (dC, dI) vwCl (TYS cy) U ∧ va_D (fun _ => True) (Wd cy a sh n z) ∧ NK U)) (va_Qi (fun (r9 : Int32) (u : Unit) => r9 = r8) (fun u t => va_P (dC, dI) vwCl (Wd cy a sh n z8) t.heap ∧ va_K (dC, dI) vwCl (TYS cy) t ∧ va_D (va_A (Wd cy a sh n z) sz) (Wd cy a sh n z8)) (va_A (Wd cy a sh n z) sz)) 0 0 (va_A (Wd cy a sh n z) sz) := by
  refine Met.ofW (cc := cX18_type) (maxL := 5) (ret := (some .int)) (by decide) rfl ?_
  intro p e s m args below meth c s₁ B hml hv
  obtain ⟨rfl, hsz, hP, hK, hD0, hN⟩ := hv
  have hx := B.exec
  have hb := B.bytes
  have hr := B.returns
  have hts := atoms_spec (ws := wsX18_type) B.pre
  have hown : s.vm.findClass RX18 = some m.cls := findClass_of_methodNamed B.named
  have hlocks := B.notSynchronized
  subst hsz
  have hD := hD0.self (sz := s.heap.size)
  clear hD0
  generalize hAe : va_A (Wd cy a sh n z) s.heap.size = A at hD ⊢
  have hA : ∀ q : Nat, s.heap.size ≤ q → A q := fun q h => by rw [← hAe]; exact Or.inr h
  clear hAe
  have hS : va_S A s.heap s.heap [] := va_S.rf
  have hl := lv_entry ([.ref (a h0), .long x0, .int x1]) (n := 5) (Nat.le_of_ble_eq_true rfl)
  rw [lg_entry_eq]
  generalize (lg_sl ([.ref (a h0), .long x0, .int x1]) ++ List.replicate (5 - (lg_sl ([.ref (a h0), .long x0, .int x1])).length) Slot.unset).toArray = ls at hl ⊢
  replace hl : lv_has ls 5 [(0, .ref (a h0)), (1, .long x0), (3, .int x1)] := hl
  unfold fn_X18_type at hf
  refine de_start hS hP (fun H locs hS hP => ?_)
  refine lv_iload_n hx hb dX18_type_0 rfl (lv_at hl 2 rfl) ?_
  refine lv_iconst (v := 1) hx hb dX18_type_1 (by decide) ?_
  refine lv_icmp_lt (tgt := 11) hx hb dX18_type_2 (by decide) (fun c_1 => ?_) (fun c_1 => ?_)
  · skip
    rw [if_pos c_1] at hf
    refine lv_iconst (v := (-1)) hx hb dX18_type_11 (by decide) ?_
    obtain ⟨h8, h9⟩ := ret_some hf
    rw [h8, h9]
    exact W.iret (v := (-1)) hx hb hr (fun t ht hW => ⟨⟨(-1), (), rfl, rfl, by rw [ht]; exact hP, va_K.moved hW.alike hK, hD⟩, hS.F ht⟩) hS.2.2 dX18_type_12
  · skip
    rw [if_neg c_1] at hf
    refine lv_iload_n hx hb dX18_type_5 rfl (lv_at hl 2 rfl) ?_
    refine lv_bipush (v := 8) hx hb dX18_type_6 (by decide) ?_
    refine lv_icmp_le (tgt := 13) hx hb dX18_type_8 (by decide) (fun c_2 => ?_) (fun c_2 => ?_)
    · skip
      rw [if_pos c_2] at hf
      refine lv_aload_n hx hb dX18_type_13 rfl (lv_at hl 0 rfl) ?_
      obtain ⟨g_3, hf⟩ := grd_some hf
      obtain ⟨kg_3, sg_3⟩ := okO_at g_3
      refine va_get (D := (dC, dI)) (ci := 18) (v := .int (z.1 h0 50)) (C := RX18) (T := TX18) (N := 78) hx hb hts iwd_X18_type_X18 hown hK hP h0 (Wd_ob kg_3 sg_3 (by decide)) rfl 50 (by decide) (hts _ md_X18_type_1) (fun _ h9 => h9) (fl_at (t := 0) rfl) dX18_type_14 ?_
      refine lv_iload_n hx hb dX18_type_17 rfl (lv_at hl 2 rfl) ?_
      refine lv_iadd hx hb dX18_type_18 ?_
      refine lv_sipush (v := 2048) hx hb dX18_type_19 (by decide) ?_
      refine lv_icmp_le (tgt := 28) hx hb dX18_type_22 (by decide) (fun c_4 => ?_) (fun c_4 => ?_)
      · skip
        rw [if_pos c_4] at hf
        refine lv_iload_n hx hb dX18_type_28 rfl (lv_at hl 2 rfl) ?_
        refine lv_iconst (v := 1) hx hb dX18_type_29 (by decide) ?_
        refine lv_isub hx hb dX18_type_30 ?_
        refine lv_topi (fun v_5 ev_5 => ?_)
        replace hf := lt_at ev_5 hf
        clear ev_5
        refine lv_istore (lv' := [(4, .int v_5), (0, .ref (a h0)), (1, .long x0), (3, .int x1)]) hx hb dX18_type_31 hl (by decide) rfl (fun ls hl2 => ?_)
        replace hl := hl2
        clear hl2
        have hl0 : lv_has ls 5 [(4, .int v_5), (0, .ref (a h0)), (1, .long x0)] := lv_sub hl [0, 1, 2] rfl
        refine de_loop (h := 33) (fun (x : St × Int32) ls H locs => lv_has ls 5 [(4, .int x.2), (0, .ref (a h0)), (1, .long x0)] ∧ va_P (dC, dI) vwCl (Wd cy a sh n x.1) H ∧ va_D A (Wd cy a sh n x.1) ∧ va_S A s.heap H locs) (fun f x => fn_X18_type_L33 F sh n h0 x0 f x.1 x.2) (z8, r8) ?_ (fun _ => rfl) F (z, v_5) ls H locs ⟨hl0, hP, hD, hS⟩ hf
        intro f_8 x ls H locs ih33 hI hf
        obtain ⟨z_7, p_6⟩ := x
        obtain ⟨hl2, hP2, hD2, hS2⟩ := hI
        replace hl : lv_has ls 5 [(4, .int p_6), (0, .ref (a h0)), (1, .long x0)] := hl2
        replace hP := hP2
        replace hD := hD2
        replace hS := hS2
        clear hl2 hP2 hD2 hS2 hl0
        replace hf := fn_X18_type_L33_s hf
        refine lv_iload hx hb dX18_type_33 (lv_at hl 0 rfl) ?_
        refine lv_if_lt (tgt := 72) hx hb dX18_type_35 (by decide) (fun c_9 => ?_) (fun c_9 => ?_)
        · skip
          rw [if_pos c_9] at hf
          refine lv_aload_n hx hb dX18_type_72 rfl (lv_at hl 1 rfl) ?_
          refine va_get (D := (dC, dI)) (ci := 18) (v := .int (z_7.1 h0 50)) (C := RX18) (T := TX18) (N := 78) hx hb hts iwd_X18_type_X18 hown hK hP h0 (Wd_ob kg_3 sg_3 (by decide)) rfl 50 (by decide) (hts _ md_X18_type_1) (fun _ h9 => h9) (fl_at (t := 0) rfl) dX18_type_73 ?_
          obtain ⟨h8, h9⟩ := ret_some hf
          rw [h8, h9]
          exact W.iret (v := (z_7.1 h0 50)) hx hb hr (fun t ht hW => ⟨⟨(z_7.1 h0 50), (), rfl, rfl, by rw [ht]; exact hP, va_K.moved hW.alike hK, hD⟩, hS.F ht⟩) hS.2.2 dX18_type_76
        · skip
          rw [if_neg c_9] at hf
          refine lv_aload_n hx hb dX18_type_38 rfl (lv_at hl 1 rfl) ?_
          obtain ⟨k_10, ek_10, hf⟩ := lnk_some hf
          refine va_get (D := (dC, dI)) (ci := 18) (v := .ref (a k_10)) (C := RX18) (T := TX18) (N := 78) hx hb hts iwd_X18_type_X18 hown hK hP h0 (Wd_ob kg_3 sg_3 (by decide)) rfl 49 (by decide) (hts _ md_X18_type_2) (fun _ h9 => h9) (fl_q rfl ek_10) dX18_type_39 ?_
          refine lv_aload_n hx hb dX18_type_42 rfl (lv_at hl 1 rfl) ?_
          refine va_get (D := (dC, dI)) (ci := 18) (v := .int (z_7.1 h0 50)) (C := RX18) (T := TX18) (N := 78) hx hb hts iwd_X18_type_X18 hown hK hP h0 (Wd_ob kg_3 sg_3 (by decide)) rfl 50 (by decide) (hts _ md_X18_type_1) (fun _ h9 => h9) (fl_at (t := 0) rfl) dX18_type_43 ?_
          refine lv_lload_n hx hb dX18_type_46 rfl (lv_at hl 2 rfl) ?_
          refine lv_bipush (v := 8) hx hb dX18_type_47 (by decide) ?_
          refine lv_iload hx hb dX18_type_49 (lv_at hl 0 rfl) ?_
          refine lv_imul hx hb dX18_type_51 ?_
          refine lv_lshr (v := (x0 >>> (((8 * p_6) : Int32).toInt64 &&& 63))) hx hb dX18_type_52 rfl ?_
          refine lv_l2i (v := (((x0 >>> (((8 * p_6) : Int32).toInt64 &&& 63))) : Int64).toInt32) hx hb dX18_type_53 rfl ?_
          refine lv_i2b (v := (((((x0 >>> (((8 * p_6) : Int32).toInt64 &&& 63))) : Int64).toInt32) : Int32).toInt8.toInt32) hx hb dX18_type_54 rfl ?_
          obtain ⟨g_11, hf⟩ := grd_some hf
          obtain ⟨kg_11, sg_11, ig_11⟩ := okA_at g_11
          refine va_bast hx hb hK hP hD hS k_10 0 (Wd_ab kg_11 sg_11) rfl ig_11 dX18_type_55 (fun H_12 locs hP2 hD2 hS2 => ?_)
          rw [Wd_tb sg_11] at hP2 hD2
          obtain ⟨z_13, ez_13⟩ : ∃ w, w = si z_7 k_10 (z_7.1 h0 50).toNatClampNeg (vp_nar .byte ((((((x0 >>> (((8 * p_6) : Int32).toInt64 &&& 63))) : Int64).toInt32) : Int32).toInt8.toInt32)) := ⟨_, rfl⟩
          rw [← ez_13] at hP2 hD2
          replace hf := lt_at ez_13 hf
          clear ez_13
          replace hP := hP2
          replace hD := hD2
          replace hS := hS2
          clear hP2 hD2 hS2
          refine lv_aload_n hx hb dX18_type_56 rfl (lv_at hl 1 rfl) ?_
          refine lv_dup hx hb dX18_type_57 rfl ?_
          refine va_get (D := (dC, dI)) (ci := 18) (v := .int (z_13.1 h0 50)) (C := RX18) (T := TX18) (N := 78) hx hb hts iwd_X18_type_X18 hown hK hP h0 (Wd_ob kg_3 sg_3 (by decide)) rfl 50 (by decide) (hts _ md_X18_type_1) (fun _ h9 => h9) (fl_at (t := 0) rfl) dX18_type_58 ?_
          refine lv_iconst (v := 1) hx hb dX18_type_61 (by decide) ?_
          refine lv_iadd hx hb dX18_type_62 ?_
          refine va_put (D := (dC, dI)) (ci := 18) (v := .int ((z_13.1 h0 50) + 1)) (ty := .int) (C := RX18) (T := TX18) (N := 78) hx hb hts iwd_X18_type_X18 tyX18 tyX18_ok nmX18 hown hK hP hD hS h0 (Wd_ob kg_3 sg_3 (by decide)) rfl 50 (by decide) (hts _ md_X18_type_1) (fun _ h9 => h9) rfl (by decide +kernel) rfl rfl (by rw [fl_len]; decide) dX18_type_63 (fun H_14 locs hP2 hD2 hS2 => ?_)
          rw [Wd_si sg_3 (by decide) rfl] at hP2 hD2
          obtain ⟨z_15, ez_15⟩ : ∃ w, w = si z_13 h0 50 ((z_13.1 h0 50) + 1) := ⟨_, rfl⟩
          rw [← ez_15] at hP2 hD2
          replace hf := lt_at ez_15 hf
          clear ez_15
          replace hP := hP2
          replace hD := hD2
          replace hS := hS2
          clear hP2 hD2 hS2
          refine lv_iinc (v := (p_6 + (-1))) (lv' := [(4, .int (p_6 + (-1))), (0, .ref (a h0)), (1, .long x0)]) hx hb dX18_type_66 hl (k := 0) rfl rfl (by decide) rfl (fun ls hl2 => ?_)
          replace hl := hl2
          clear hl2
          refine lv_goto (tgt := 33) hx hb dX18_type_69 (by decide) ?_
          exact ih33 (z_15, (p_6 + (-1))) ls H_14 locs ⟨lv_sub hl [0, 1, 2] rfl, hP, hD, hS⟩ hf
      · skip
        rw [if_neg c_4] at hf
        refine lv_bipush (v := (-3)) hx hb dX18_type_25 (by decide) ?_
        obtain ⟨h8, h9⟩ := ret_some hf
        rw [h8, h9]
        exact W.iret (v := (-3)) hx hb hr (fun t ht hW => ⟨⟨(-3), (), rfl, rfl, by rw [ht]; exact hP, va_K.moved hW.alike hK, hD⟩, hS.F ht⟩) hS.2.2 dX18_type_27
    · skip
      rw [if_neg c_2] at hf
      refine lv_iconst (v := (-1)) hx hb dX18_type_11 (by decide) ?_
      obtain ⟨h8, h9⟩ := ret_some hf
      rw [h8, h9]
      exact W.iret (v := (-1)) hx hb hr (fun t ht hW => ⟨⟨(-1), (), rfl, rfl, by rw [ht]; exact hP, va_K.moved hW.alike hK, hD⟩, hS.F ht⟩) hS.2.2 dX18_type_12

theorem md_X11_type_1 : (.fieldLink RX11 80 "ResourceLedger" "tapeLength" "I" : Cond) ∈ wsX11_type := List.mem_of_getElem? (i := 1) rfl
theorem iwd_X11_type_X11 : ∀ w ∈ wsX110, w ∈ wsX11_type := fun _ h => List.mem_cons_of_mem _ (List.mem_append_right _ h)
theorem md_X11_type_2 : (.fieldLink RX11 9 "ResourceLedger" "tape" "[B" : Cond) ∈ wsX11_type := List.mem_of_getElem? (i := 2) rfl
def fn_X11_type_L33 (F : Nat) (sh : Nat → Nat × Nat) (n : Nat) (h0 : Nat) (x0 : Int64) : Nat → St → Int32 → Option (St × Int32)
  | 0, _, _ => none
  | f_8 + 1, z_7, p_6 => if (p_6 : Int32) < 0 then some (z_7, (z_7.1 h0 1)) else lnk (z_7.2.2 h0 0) (fun k_10 => lt_ (z_7.1 h0 1) (fun v_11 => lt_ (si z_7 h0 1 (v_11 + 1)) (fun z_13 => grd (okA sh n k_10 100 v_11) (lt_ (si z_13 k_10 v_11.toNatClampNeg (vp_nar .byte (((((((x0 : Int64).toUInt64 >>> (((8 * p_6) : Int32).toInt64.toUInt64 &&& Int64.toUInt64 63)).toInt64) : Int64).toInt32) : Int32).toInt8.toInt32))) (fun z_16 => fn_X11_type_L33 F sh n h0 x0 f_8 z_16 (p_6 + (-1)))))))
theorem fn_X11_type_L33_s {F : Nat} {sh : Nat → Nat × Nat} {n : Nat} {h0 : Nat} {x0 : Int64} {f_8 : Nat} {z_7 : St} {p_6 : Int32} {y : St × Int32} (h : fn_X11_type_L33 F sh n h0 x0 (f_8 + 1) z_7 p_6 = some y) : (if (p_6 : Int32) < 0 then some (z_7, (z_7.1 h0 1)) else lnk (z_7.2.2 h0 0) (fun k_10 => lt_ (z_7.1 h0 1) (fun v_11 => lt_ (si z_7 h0 1 (v_11 + 1)) (fun z_13 => grd (okA sh n k_10 100 v_11) (lt_ (si z_13 k_10 v_11.toNatClampNeg (vp_nar .byte (((((((x0 : Int64).toUInt64 >>> (((8 * p_6) : Int32).toInt64.toUInt64 &&& Int64.toUInt64 63)).toInt64) : Int64).toInt32) : Int32).toInt8.toInt32))) (fun z_16 => fn_X11_type_L33 F sh n h0 x0 f_8 z_16 (p_6 + (-1)))))))) = some y := h
def fn_X11_type (F : Nat) (sh : Nat → Nat × Nat) (n : Nat) (z : St) (h0 : Nat) (x0 : Int64) (x1 : Int32) : Option (St × Int32) := if (x1 : Int32) < 1 then some (z, (-1)) else if (x1 : Int32) ≤ 8 then grd (okO sh n h0 11) (if (((z.1 h0 1) + x1) : Int32) ≤ 2048 then lt_ (x1 - 1) (fun v_5 => fn_X11_type_L33 F sh n h0 x0 F z v_5) else some (z, (-3))) else some (z, (-1))
set_option maxHeartbeats 4000000 in
set_option maxRecDepth 100000 in
theorem de_X11_type (l : Launch) (dC : Nat → ClassId) (dI : Nat → Nat → Nat) (cy : Nat → ClassId) (a : Nat → Nat) (sh : Nat → Nat × Nat) (n sz : Nat) (F : Nat) (z : St) (h0 : Nat) (x0 : Int64) (x1 : Int32) {z8 : St} {r8 : Int32} (hf : fn_X11_type F sh n z h0 x0 x1 = some (z8, r8)) : Met l yX11_type wsX11_type ({ frames := 0, cells := 0, slots := 0, locals := 0 }) (va_Pc [.ref (a h0), .long x0, .int x1] (fun U => U.heap.size = sz ∧ va_P (dC, dI) vwCl (Wd cy a sh n z) U.heap ∧ va_K (dC, dI) vwCl (TYS cy) U ∧ va_D (fun _ => True) (Wd cy a sh n z) ∧ NK U)) (va_Qi (fun (r9 : Int32) (u : Unit) => r9 = r8) (fun u t => va_P (dC, dI) vwCl (Wd cy a sh n z8) t.heap ∧ va_K (dC, dI) vwCl (TYS cy) t ∧ va_D (va_A (Wd cy a sh n z) sz) (Wd cy a sh n z8)) (va_A (Wd cy a sh n z) sz)) 0 0 (va_A (Wd cy a sh n z) sz) := by
  refine Met.ofW (cc := cX11_type) (maxL := 5) (ret := (some .int)) (by decide) rfl ?_
  intro p e s m args below meth c s₁ B hml hv
  obtain ⟨rfl, hsz, hP, hK, hD0, hN⟩ := hv
  have hx := B.exec
  have hb := B.bytes
  have hr := B.returns
  have hts := atoms_spec (ws := wsX11_type) B.pre
  have hown : s.vm.findClass RX11 = some m.cls := findClass_of_methodNamed B.named
  have hlocks := B.notSynchronized
  subst hsz
  have hD := hD0.self (sz := s.heap.size)
  clear hD0
  generalize hAe : va_A (Wd cy a sh n z) s.heap.size = A at hD ⊢
  have hA : ∀ q : Nat, s.heap.size ≤ q → A q := fun q h => by rw [← hAe]; exact Or.inr h
  clear hAe
  have hS : va_S A s.heap s.heap [] := va_S.rf
  have hl := lv_entry ([.ref (a h0), .long x0, .int x1]) (n := 5) (Nat.le_of_ble_eq_true rfl)
  rw [lg_entry_eq]
  generalize (lg_sl ([.ref (a h0), .long x0, .int x1]) ++ List.replicate (5 - (lg_sl ([.ref (a h0), .long x0, .int x1])).length) Slot.unset).toArray = ls at hl ⊢
  replace hl : lv_has ls 5 [(0, .ref (a h0)), (1, .long x0), (3, .int x1)] := hl
  unfold fn_X11_type at hf
  refine de_start hS hP (fun H locs hS hP => ?_)
  refine lv_iload_n hx hb dX11_type_0 rfl (lv_at hl 2 rfl) ?_
  refine lv_iconst (v := 1) hx hb dX11_type_1 (by decide) ?_
  refine lv_icmp_lt (tgt := 11) hx hb dX11_type_2 (by decide) (fun c_1 => ?_) (fun c_1 => ?_)
  · skip
    rw [if_pos c_1] at hf
    refine lv_iconst (v := (-1)) hx hb dX11_type_11 (by decide) ?_
    obtain ⟨h8, h9⟩ := ret_some hf
    rw [h8, h9]
    exact W.iret (v := (-1)) hx hb hr (fun t ht hW => ⟨⟨(-1), (), rfl, rfl, by rw [ht]; exact hP, va_K.moved hW.alike hK, hD⟩, hS.F ht⟩) hS.2.2 dX11_type_12
  · skip
    rw [if_neg c_1] at hf
    refine lv_iload_n hx hb dX11_type_5 rfl (lv_at hl 2 rfl) ?_
    refine lv_bipush (v := 8) hx hb dX11_type_6 (by decide) ?_
    refine lv_icmp_le (tgt := 13) hx hb dX11_type_8 (by decide) (fun c_2 => ?_) (fun c_2 => ?_)
    · skip
      rw [if_pos c_2] at hf
      refine lv_aload_n hx hb dX11_type_13 rfl (lv_at hl 0 rfl) ?_
      obtain ⟨g_3, hf⟩ := grd_some hf
      obtain ⟨kg_3, sg_3⟩ := okO_at g_3
      refine va_get (D := (dC, dI)) (ci := 11) (v := .int (z.1 h0 1)) (C := RX11) (T := TX11) (N := 13) hx hb hts iwd_X11_type_X11 hown hK hP h0 (Wd_ob kg_3 sg_3 (by decide)) rfl 1 (by decide) (hts _ md_X11_type_1) (fun _ h9 => h9) (fl_at (t := 0) rfl) dX11_type_14 ?_
      refine lv_iload_n hx hb dX11_type_17 rfl (lv_at hl 2 rfl) ?_
      refine lv_iadd hx hb dX11_type_18 ?_
      refine lv_sipush (v := 2048) hx hb dX11_type_19 (by decide) ?_
      refine lv_icmp_le (tgt := 28) hx hb dX11_type_22 (by decide) (fun c_4 => ?_) (fun c_4 => ?_)
      · skip
        rw [if_pos c_4] at hf
        refine lv_iload_n hx hb dX11_type_28 rfl (lv_at hl 2 rfl) ?_
        refine lv_iconst (v := 1) hx hb dX11_type_29 (by decide) ?_
        refine lv_isub hx hb dX11_type_30 ?_
        refine lv_topi (fun v_5 ev_5 => ?_)
        replace hf := lt_at ev_5 hf
        clear ev_5
        refine lv_istore (lv' := [(4, .int v_5), (0, .ref (a h0)), (1, .long x0), (3, .int x1)]) hx hb dX11_type_31 hl (by decide) rfl (fun ls hl2 => ?_)
        replace hl := hl2
        clear hl2
        have hl0 : lv_has ls 5 [(4, .int v_5), (0, .ref (a h0)), (1, .long x0)] := lv_sub hl [0, 1, 2] rfl
        refine de_loop (h := 33) (fun (x : St × Int32) ls H locs => lv_has ls 5 [(4, .int x.2), (0, .ref (a h0)), (1, .long x0)] ∧ va_P (dC, dI) vwCl (Wd cy a sh n x.1) H ∧ va_D A (Wd cy a sh n x.1) ∧ va_S A s.heap H locs) (fun f x => fn_X11_type_L33 F sh n h0 x0 f x.1 x.2) (z8, r8) ?_ (fun _ => rfl) F (z, v_5) ls H locs ⟨hl0, hP, hD, hS⟩ hf
        intro f_8 x ls H locs ih33 hI hf
        obtain ⟨z_7, p_6⟩ := x
        obtain ⟨hl2, hP2, hD2, hS2⟩ := hI
        replace hl : lv_has ls 5 [(4, .int p_6), (0, .ref (a h0)), (1, .long x0)] := hl2
        replace hP := hP2
        replace hD := hD2
        replace hS := hS2
        clear hl2 hP2 hD2 hS2 hl0
        replace hf := fn_X11_type_L33_s hf
        refine lv_iload hx hb dX11_type_33 (lv_at hl 0 rfl) ?_
        refine lv_if_lt (tgt := 69) hx hb dX11_type_35 (by decide) (fun c_9 => ?_) (fun c_9 => ?_)
        · skip
          rw [if_pos c_9] at hf
          refine lv_aload_n hx hb dX11_type_69 rfl (lv_at hl 1 rfl) ?_
          refine va_get (D := (dC, dI)) (ci := 11) (v := .int (z_7.1 h0 1)) (C := RX11) (T := TX11) (N := 13) hx hb hts iwd_X11_type_X11 hown hK hP h0 (Wd_ob kg_3 sg_3 (by decide)) rfl 1 (by decide) (hts _ md_X11_type_1) (fun _ h9 => h9) (fl_at (t := 0) rfl) dX11_type_70 ?_
          obtain ⟨h8, h9⟩ := ret_some hf
          rw [h8, h9]
          exact W.iret (v := (z_7.1 h0 1)) hx hb hr (fun t ht hW => ⟨⟨(z_7.1 h0 1), (), rfl, rfl, by rw [ht]; exact hP, va_K.moved hW.alike hK, hD⟩, hS.F ht⟩) hS.2.2 dX11_type_73
        · skip
          rw [if_neg c_9] at hf
          refine lv_aload_n hx hb dX11_type_38 rfl (lv_at hl 1 rfl) ?_
          obtain ⟨k_10, ek_10, hf⟩ := lnk_some hf
          refine va_get (D := (dC, dI)) (ci := 11) (v := .ref (a k_10)) (C := RX11) (T := TX11) (N := 13) hx hb hts iwd_X11_type_X11 hown hK hP h0 (Wd_ob kg_3 sg_3 (by decide)) rfl 0 (by decide) (hts _ md_X11_type_2) (fun _ h9 => h9) (fl_q rfl ek_10) dX11_type_39 ?_
          refine lv_aload_n hx hb dX11_type_42 rfl (lv_at hl 1 rfl) ?_
          refine lv_dup hx hb dX11_type_43 rfl ?_
          refine va_get (D := (dC, dI)) (ci := 11) (v := .int (z_7.1 h0 1)) (C := RX11) (T := TX11) (N := 13) hx hb hts iwd_X11_type_X11 hown hK hP h0 (Wd_ob kg_3 sg_3 (by decide)) rfl 1 (by decide) (hts _ md_X11_type_1) (fun _ h9 => h9) (fl_at (t := 0) rfl) dX11_type_44 ?_
          refine lv_topi (fun v_11 ev_11 => ?_)
          replace hf := lt_at ev_11 hf
          clear ev_11
          refine lv_dup_x1 hx hb dX11_type_47 rfl rfl ?_
          refine lv_iconst (v := 1) hx hb dX11_type_48 (by decide) ?_
          refine lv_iadd hx hb dX11_type_49 ?_
          refine va_put (D := (dC, dI)) (ci := 11) (v := .int (v_11 + 1)) (ty := .int) (C := RX11) (T := TX11) (N := 13) hx hb hts iwd_X11_type_X11 tyX11 tyX11_ok nmX11 hown hK hP hD hS h0 (Wd_ob kg_3 sg_3 (by decide)) rfl 1 (by decide) (hts _ md_X11_type_1) (fun _ h9 => h9) rfl (by decide +kernel) rfl rfl (by rw [fl_len]; decide) dX11_type_50 (fun H_12 locs hP2 hD2 hS2 => ?_)
          rw [Wd_si sg_3 (by decide) rfl] at hP2 hD2
          obtain ⟨z_13, ez_13⟩ : ∃ w, w = si z_7 h0 1 (v_11 + 1) := ⟨_, rfl⟩
          rw [← ez_13] at hP2 hD2
          replace hf := lt_at ez_13 hf
          clear ez_13
          replace hP := hP2
          replace hD := hD2
          replace hS := hS2
          clear hP2 hD2 hS2
          refine lv_lload_n hx hb dX11_type_53 rfl (lv_at hl 2 rfl) ?_
          refine lv_bipush (v := 8) hx hb dX11_type_54 (by decide) ?_
          refine lv_iload hx hb dX11_type_56 (lv_at hl 0 rfl) ?_
          refine lv_imul hx hb dX11_type_58 ?_
          refine lv_lushr (v := ((x0 : Int64).toUInt64 >>> (((8 * p_6) : Int32).toInt64.toUInt64 &&& Int64.toUInt64 63)).toInt64) hx hb dX11_type_59 rfl ?_
          refine lv_l2i (v := ((((x0 : Int64).toUInt64 >>> (((8 * p_6) : Int32).toInt64.toUInt64 &&& Int64.toUInt64 63)).toInt64) : Int64).toInt32) hx hb dX11_type_60 rfl ?_
          refine lv_i2b (v := ((((((x0 : Int64).toUInt64 >>> (((8 * p_6) : Int32).toInt64.toUInt64 &&& Int64.toUInt64 63)).toInt64) : Int64).toInt32) : Int32).toInt8.toInt32) hx hb dX11_type_61 rfl ?_
          obtain ⟨g_14, hf⟩ := grd_some hf
          obtain ⟨kg_14, sg_14, ig_14⟩ := okA_at g_14
          refine va_bast hx hb hK hP hD hS k_10 0 (Wd_ab kg_14 sg_14) rfl ig_14 dX11_type_62 (fun H_15 locs hP2 hD2 hS2 => ?_)
          rw [Wd_tb sg_14] at hP2 hD2
          obtain ⟨z_16, ez_16⟩ : ∃ w, w = si z_13 k_10 v_11.toNatClampNeg (vp_nar .byte (((((((x0 : Int64).toUInt64 >>> (((8 * p_6) : Int32).toInt64.toUInt64 &&& Int64.toUInt64 63)).toInt64) : Int64).toInt32) : Int32).toInt8.toInt32)) := ⟨_, rfl⟩
          rw [← ez_16] at hP2 hD2
          replace hf := lt_at ez_16 hf
          clear ez_16
          replace hP := hP2
          replace hD := hD2
          replace hS := hS2
          clear hP2 hD2 hS2
          refine lv_iinc (v := (p_6 + (-1))) (lv' := [(4, .int (p_6 + (-1))), (0, .ref (a h0)), (1, .long x0)]) hx hb dX11_type_63 hl (k := 0) rfl rfl (by decide) rfl (fun ls hl2 => ?_)
          replace hl := hl2
          clear hl2
          refine lv_goto (tgt := 33) hx hb dX11_type_66 (by decide) ?_
          exact ih33 (z_16, (p_6 + (-1))) ls H_15 locs ⟨lv_sub hl [0, 1, 2] rfl, hP, hD, hS⟩ hf
      · skip
        rw [if_neg c_4] at hf
        refine lv_bipush (v := (-3)) hx hb dX11_type_25 (by decide) ?_
        obtain ⟨h8, h9⟩ := ret_some hf
        rw [h8, h9]
        exact W.iret (v := (-3)) hx hb hr (fun t ht hW => ⟨⟨(-3), (), rfl, rfl, by rw [ht]; exact hP, va_K.moved hW.alike hK, hD⟩, hS.F ht⟩) hS.2.2 dX11_type_27
    · skip
      rw [if_neg c_2] at hf
      refine lv_iconst (v := (-1)) hx hb dX11_type_11 (by decide) ?_
      obtain ⟨h8, h9⟩ := ret_some hf
      rw [h8, h9]
      exact W.iret (v := (-1)) hx hb hr (fun t ht hW => ⟨⟨(-1), (), rfl, rfl, by rw [ht]; exact hP, va_K.moved hW.alike hK, hD⟩, hS.F ht⟩) hS.2.2 dX11_type_12

theorem md_X7_findResource_1 : (.fieldLink RX7 37 "ResourceLedger$State" "nodeCount" "[I" : Cond) ∈ wsX7_findResource := List.mem_of_getElem? (i := 1) rfl
theorem iwd_X7_findResource_X7 : ∀ w ∈ wsX70, w ∈ wsX7_findResource := fun _ h => List.mem_cons_of_mem _ (List.mem_append_right _ h)
theorem md_X7_findResource_2 : (.fieldLink RX7 27 "ResourceLedger$State" "resourceAddress" "[J" : Cond) ∈ wsX7_findResource := List.mem_of_getElem? (i := 2) rfl
theorem md_X7_findResource_3 : (.fieldLink RX7 30 "ResourceLedger$State" "resourceModule" "[I" : Cond) ∈ wsX7_findResource := List.mem_of_getElem? (i := 3) rfl
theorem md_X7_findResource_4 : (.fieldLink RX7 34 "ResourceLedger$State" "resourceStructure" "[I" : Cond) ∈ wsX7_findResource := List.mem_of_getElem? (i := 4) rfl
def fn_X7_findResource_B59 (F : Nat) (sh : Nat → Nat × Nat) (n : Nat) (p_1 : Int32) (ko3 : St → Int32 → Option (St × Int32)) (z_8 : St) : Option (St × Int32) := ko3 z_8 (p_1 + 1)
theorem fn_X7_findResource_B59_s {F : Nat} {sh : Nat → Nat × Nat} {n : Nat} {p_1 : Int32} {ko3 : St → Int32 → Option (St × Int32)} {z_8 : St} {y : St × Int32} (h : fn_X7_findResource_B59 F sh n p_1 ko3 z_8 = some y) : (ko3 z_8 (p_1 + 1)) = some y := h
def fn_X7_findResource_L3 (F : Nat) (sh : Nat → Nat × Nat) (n : Nat) (h0 : Nat) (x0 : Int64) (x1 : Int32) (x2 : Int32) : Nat → St → Int32 → Option (St × Int32)
  | 0, _, _ => none
  | f_3 + 1, z_2, p_1 => if (256 : Int32) ≤ p_1 then some (z_2, (-1)) else grd (okO sh n h0 7) (lnk (z_2.2.2 h0 9) (fun k_6 => grd (okA sh n k_6 101 p_1) (if ((z_2.1 k_6 p_1.toNatClampNeg) : Int32) ≤ 0 then fn_X7_findResource_B59 F sh n p_1 (fun z9 q5 => fn_X7_findResource_L3 F sh n h0 x0 x1 x2 f_3 z9 q5) z_2  else lnk (z_2.2.2 h0 6) (fun k_10 => grd (okA sh n k_10 102 p_1) (if ((z_2.2.1 k_10 p_1.toNatClampNeg) : Int64) = x0 then lnk (z_2.2.2 h0 7) (fun k_13 => grd (okA sh n k_13 101 p_1) (if ((z_2.1 k_13 p_1.toNatClampNeg) : Int32) = x1 then lnk (z_2.2.2 h0 8) (fun k_16 => grd (okA sh n k_16 101 p_1) (if ((z_2.1 k_16 p_1.toNatClampNeg) : Int32) = x2 then some (z_2, p_1) else fn_X7_findResource_B59 F sh n p_1 (fun z9 q5 => fn_X7_findResource_L3 F sh n h0 x0 x1 x2 f_3 z9 q5) z_2 )) else fn_X7_findResource_B59 F sh n p_1 (fun z9 q5 => fn_X7_findResource_L3 F sh n h0 x0 x1 x2 f_3 z9 q5) z_2 )) else fn_X7_findResource_B59 F sh n p_1 (fun z9 q5 => fn_X7_findResource_L3 F sh n h0 x0 x1 x2 f_3 z9 q5) z_2 )))))
theorem fn_X7_findResource_L3_s {F : Nat} {sh : Nat → Nat × Nat} {n : Nat} {h0 : Nat} {x0 : Int64} {x1 : Int32} {x2 : Int32} {f_3 : Nat} {z_2 : St} {p_1 : Int32} {y : St × Int32} (h : fn_X7_findResource_L3 F sh n h0 x0 x1 x2 (f_3 + 1) z_2 p_1 = some y) : (if (256 : Int32) ≤ p_1 then some (z_2, (-1)) else grd (okO sh n h0 7) (lnk (z_2.2.2 h0 9) (fun k_6 => grd (okA sh n k_6 101 p_1) (if ((z_2.1 k_6 p_1.toNatClampNeg) : Int32) ≤ 0 then fn_X7_findResource_B59 F sh n p_1 (fun z9 q5 => fn_X7_findResource_L3 F sh n h0 x0 x1 x2 f_3 z9 q5) z_2  else lnk (z_2.2.2 h0 6) (fun k_10 => grd (okA sh n k_10 102 p_1) (if ((z_2.2.1 k_10 p_1.toNatClampNeg) : Int64) = x0 then lnk (z_2.2.2 h0 7) (fun k_13 => grd (okA sh n k_13 101 p_1) (if ((z_2.1 k_13 p_1.toNatClampNeg) : Int32) = x1 then lnk (z_2.2.2 h0 8) (fun k_16 => grd (okA sh n k_16 101 p_1) (if ((z_2.1 k_16 p_1.toNatClampNeg) : Int32) = x2 then some (z_2, p_1) else fn_X7_findResource_B59 F sh n p_1 (fun z9 q5 => fn_X7_findResource_L3 F sh n h0 x0 x1 x2 f_3 z9 q5) z_2 )) else fn_X7_findResource_B59 F sh n p_1 (fun z9 q5 => fn_X7_findResource_L3 F sh n h0 x0 x1 x2 f_3 z9 q5) z_2 )) else fn_X7_findResource_B59 F sh n p_1 (fun z9 q5 => fn_X7_findResource_L3 F sh n h0 x0 x1 x2 f_3 z9 q5) z_2 )))))) = some y := h
def fn_X7_findResource (F : Nat) (sh : Nat → Nat × Nat) (n : Nat) (z : St) (h0 : Nat) (x0 : Int64) (x1 : Int32) (x2 : Int32) : Option (St × Int32) := fn_X7_findResource_L3 F sh n h0 x0 x1 x2 F z 0
set_option maxHeartbeats 4000000 in
set_option maxRecDepth 100000 in
theorem de_X7_findResource (l : Launch) (dC : Nat → ClassId) (dI : Nat → Nat → Nat) (cy : Nat → ClassId) (a : Nat → Nat) (sh : Nat → Nat × Nat) (n sz : Nat) (F : Nat) (z : St) (h0 : Nat) (x0 : Int64) (x1 : Int32) (x2 : Int32) {z8 : St} {r8 : Int32} (hf : fn_X7_findResource F sh n z h0 x0 x1 x2 = some (z8, r8)) : Met l yX7_findResource wsX7_findResource ({ frames := 0, cells := 0, slots := 0, locals := 0 }) (va_Pc [.ref (a h0), .long x0, .int x1, .int x2] (fun U => U.heap.size = sz ∧ va_P (dC, dI) vwCl (Wd cy a sh n z) U.heap ∧ va_K (dC, dI) vwCl (TYS cy) U ∧ va_D (fun _ => True) (Wd cy a sh n z) ∧ NK U)) (va_Qi (fun (r9 : Int32) (u : Unit) => r9 = r8) (fun u t => va_P (dC, dI) vwCl (Wd cy a sh n z8) t.heap ∧ va_K (dC, dI) vwCl (TYS cy) t ∧ va_D (va_A (Wd cy a sh n z) sz) (Wd cy a sh n z8)) (va_A (Wd cy a sh n z) sz)) 0 0 (va_A (Wd cy a sh n z) sz) := by
  refine Met.ofW (cc := cX7_findResource) (maxL := 6) (ret := (some .int)) (by decide) rfl ?_
  intro p e s m args below meth c s₁ B hml hv
  obtain ⟨rfl, hsz, hP, hK, hD0, hN⟩ := hv
  have hx := B.exec
  have hb := B.bytes
  have hr := B.returns
  have hts := atoms_spec (ws := wsX7_findResource) B.pre
  have hown : s.vm.findClass RX7 = some m.cls := findClass_of_methodNamed B.named
  have hlocks := B.notSynchronized
  subst hsz
  have hD := hD0.self (sz := s.heap.size)
  clear hD0
  generalize hAe : va_A (Wd cy a sh n z) s.heap.size = A at hD ⊢
  have hA : ∀ q : Nat, s.heap.size ≤ q → A q := fun q h => by rw [← hAe]; exact Or.inr h
  clear hAe
  have hS : va_S A s.heap s.heap [] := va_S.rf
  have hl := lv_entry ([.ref (a h0), .long x0, .int x1, .int x2]) (n := 6) (Nat.le_of_ble_eq_true rfl)
  rw [lg_entry_eq]
  generalize (lg_sl ([.ref (a h0), .long x0, .int x1, .int x2]) ++ List.replicate (6 - (lg_sl ([.ref (a h0), .long x0, .int x1, .int x2])).length) Slot.unset).toArray = ls at hl ⊢
  replace hl : lv_has ls 6 [(0, .ref (a h0)), (1, .long x0), (3, .int x1), (4, .int x2)] := hl
  unfold fn_X7_findResource at hf
  refine de_start hS hP (fun H locs hS hP => ?_)
  refine lv_iconst (v := 0) hx hb dX7_findResource_0 (by decide) ?_
  refine lv_istore (lv' := [(5, .int 0), (0, .ref (a h0)), (1, .long x0), (3, .int x1), (4, .int x2)]) hx hb dX7_findResource_1 hl (by decide) rfl (fun ls hl2 => ?_)
  replace hl := hl2
  clear hl2
  have hl0 : lv_has ls 6 [(5, .int 0), (0, .ref (a h0)), (1, .long x0), (3, .int x1), (4, .int x2)] := lv_sub hl [0, 1, 2, 3, 4] rfl
  refine de_loop (h := 3) (fun (x : St × Int32) ls H locs => lv_has ls 6 [(5, .int x.2), (0, .ref (a h0)), (1, .long x0), (3, .int x1), (4, .int x2)] ∧ va_P (dC, dI) vwCl (Wd cy a sh n x.1) H ∧ va_D A (Wd cy a sh n x.1) ∧ va_S A s.heap H locs) (fun f x => fn_X7_findResource_L3 F sh n h0 x0 x1 x2 f x.1 x.2) (z8, r8) ?_ (fun _ => rfl) F (z, 0) ls H locs ⟨hl0, hP, hD, hS⟩ hf
  intro f_3 x ls H locs ih3 hI hf
  obtain ⟨z_2, p_1⟩ := x
  obtain ⟨hl2, hP2, hD2, hS2⟩ := hI
  replace hl : lv_has ls 6 [(5, .int p_1), (0, .ref (a h0)), (1, .long x0), (3, .int x1), (4, .int x2)] := hl2
  replace hP := hP2
  replace hD := hD2
  replace hS := hS2
  clear hl2 hP2 hD2 hS2 hl0
  replace hf := fn_X7_findResource_L3_s hf
  refine lv_iload hx hb dX7_findResource_3 (lv_at hl 0 rfl) ?_
  refine lv_sipush (v := 256) hx hb dX7_findResource_5 (by decide) ?_
  refine lv_icmp_ge (tgt := 65) hx hb dX7_findResource_8 (by decide) (fun c_4 => ?_) (fun c_4 => ?_)
  · skip
    rw [if_pos c_4] at hf
    refine lv_iconst (v := (-1)) hx hb dX7_findResource_65 (by decide) ?_
    obtain ⟨h8, h9⟩ := ret_some hf
    rw [h8, h9]
    exact W.iret (v := (-1)) hx hb hr (fun t ht hW => ⟨⟨(-1), (), rfl, rfl, by rw [ht]; exact hP, va_K.moved hW.alike hK, hD⟩, hS.F ht⟩) hS.2.2 dX7_findResource_66
  · skip
    rw [if_neg c_4] at hf
    refine lv_aload_n hx hb dX7_findResource_11 rfl (lv_at hl 1 rfl) ?_
    obtain ⟨g_5, hf⟩ := grd_some hf
    obtain ⟨kg_5, sg_5⟩ := okO_at g_5
    obtain ⟨k_6, ek_6, hf⟩ := lnk_some hf
    refine va_get (D := (dC, dI)) (ci := 7) (v := .ref (a k_6)) (C := RX7) (T := TX7) (N := 16) hx hb hts iwd_X7_findResource_X7 hown hK hP h0 (Wd_ob kg_5 sg_5 (by decide)) rfl 9 (by decide) (hts _ md_X7_findResource_1) (fun _ h9 => h9) (fl_q rfl ek_6) dX7_findResource_12 ?_
    refine lv_iload hx hb dX7_findResource_15 (lv_at hl 0 rfl) ?_
    obtain ⟨g_7, hf⟩ := grd_some hf
    obtain ⟨kg_7, sg_7, ig_7⟩ := okA_at g_7
    refine va_iald hx hb hK hP k_6 1 (Wd_ai kg_7 sg_7) rfl ig_7 dX7_findResource_17 ?_
    refine de_cut (h := 59) (fun (x : St) => []) (fun x ls H locs => lv_has ls 6 [(5, .int p_1), (0, .ref (a h0)), (1, .long x0), (3, .int x1), (4, .int x2)] ∧ va_P (dC, dI) vwCl (Wd cy a sh n x) H ∧ va_D A (Wd cy a sh n x) ∧ va_S A s.heap H locs) (fun x => fn_X7_findResource_B59 F sh n p_1 (fun z9 q5 => fn_X7_findResource_L3 F sh n h0 x0 x1 x2 f_3 z9 q5) x) (z8, r8) ?_ (fun B59 => ?_)
    · intro x ls H locs hI hf
      obtain ⟨z_8, ez⟩ : ∃ w, w = x := ⟨_, rfl⟩
      subst ez
      obtain ⟨hl2, hP2, hD2, hS2⟩ := hI
      replace hl : lv_has ls 6 [(5, .int p_1), (0, .ref (a h0)), (1, .long x0), (3, .int x1), (4, .int x2)] := hl2
      replace hP := hP2
      replace hD := hD2
      replace hS := hS2
      clear hl2 hP2 hD2 hS2
      replace hf := fn_X7_findResource_B59_s hf
      refine W.eq (g2 := F0 m 59 ls []) rfl ?_
      refine lv_iinc (v := (p_1 + 1)) (lv' := [(5, .int (p_1 + 1)), (0, .ref (a h0)), (1, .long x0), (3, .int x1), (4, .int x2)]) hx hb dX7_findResource_59 hl (k := 0) rfl rfl (by decide) rfl (fun ls hl2 => ?_)
      replace hl := hl2
      clear hl2
      refine lv_goto (tgt := 3) hx hb dX7_findResource_62 (by decide) ?_
      exact ih3 (z_8, (p_1 + 1)) ls H locs ⟨lv_sub hl [0, 1, 2, 3, 4] rfl, hP, hD, hS⟩ hf
    refine lv_if_le (tgt := 59) hx hb dX7_findResource_18 (by decide) (fun c_9 => ?_) (fun c_9 => ?_)
    · skip
      rw [if_pos c_9] at hf
      exact B59 (z_2) ls H locs ⟨lv_sub hl [0, 1, 2, 3, 4] rfl, hP, hD, hS⟩ hf
    · skip
      rw [if_neg c_9] at hf
      refine lv_aload_n hx hb dX7_findResource_21 rfl (lv_at hl 1 rfl) ?_
      obtain ⟨k_10, ek_10, hf⟩ := lnk_some hf
      refine va_get (D := (dC, dI)) (ci := 7) (v := .ref (a k_10)) (C := RX7) (T := TX7) (N := 16) hx hb hts iwd_X7_findResource_X7 hown hK hP h0 (Wd_ob kg_5 sg_5 (by decide)) rfl 6 (by decide) (hts _ md_X7_findResource_2) (fun _ h9 => h9) (fl_q rfl ek_10) dX7_findResource_22 ?_
      refine lv_iload hx hb dX7_findResource_25 (lv_at hl 0 rfl) ?_
      obtain ⟨g_11, hf⟩ := grd_some hf
      obtain ⟨kg_11, sg_11, ig_11⟩ := okA_at g_11
      refine va_lald hx hb hK hP k_10 2 (Wd_al kg_11 sg_11) rfl ig_11 dX7_findResource_27 ?_
      refine lv_lload_n hx hb dX7_findResource_28 rfl (lv_at hl 2 rfl) ?_
      refine W.lcmp hx hb dX7_findResource_29 ?_
      refine lv_if_ne (tgt := 59) hx hb dX7_findResource_30 (by decide) (fun c_12 => ?_) (fun c_12 => ?_)
      · skip
        rw [lg_cmp_eq] at c_12
        rw [if_neg c_12] at hf
        exact B59 (z_2) ls H locs ⟨lv_sub hl [0, 1, 2, 3, 4] rfl, hP, hD, hS⟩ hf
      · skip
        rw [lg_cmp_eq] at c_12
        rw [if_pos c_12] at hf
        refine lv_aload_n hx hb dX7_findResource_33 rfl (lv_at hl 1 rfl) ?_
        obtain ⟨k_13, ek_13, hf⟩ := lnk_some hf
        refine va_get (D := (dC, dI)) (ci := 7) (v := .ref (a k_13)) (C := RX7) (T := TX7) (N := 16) hx hb hts iwd_X7_findResource_X7 hown hK hP h0 (Wd_ob kg_5 sg_5 (by decide)) rfl 7 (by decide) (hts _ md_X7_findResource_3) (fun _ h9 => h9) (fl_q rfl ek_13) dX7_findResource_34 ?_
        refine lv_iload hx hb dX7_findResource_37 (lv_at hl 0 rfl) ?_
        obtain ⟨g_14, hf⟩ := grd_some hf
        obtain ⟨kg_14, sg_14, ig_14⟩ := okA_at g_14
        refine va_iald hx hb hK hP k_13 1 (Wd_ai kg_14 sg_14) rfl ig_14 dX7_findResource_39 ?_
        refine lv_iload_n hx hb dX7_findResource_40 rfl (lv_at hl 3 rfl) ?_
        refine lv_icmp_ne (tgt := 59) hx hb dX7_findResource_41 (by decide) (fun c_15 => ?_) (fun c_15 => ?_)
        · skip
          rw [if_neg c_15] at hf
          exact B59 (z_2) ls H locs ⟨lv_sub hl [0, 1, 2, 3, 4] rfl, hP, hD, hS⟩ hf
        · skip
          rw [if_pos c_15] at hf
          refine lv_aload_n hx hb dX7_findResource_44 rfl (lv_at hl 1 rfl) ?_
          obtain ⟨k_16, ek_16, hf⟩ := lnk_some hf
          refine va_get (D := (dC, dI)) (ci := 7) (v := .ref (a k_16)) (C := RX7) (T := TX7) (N := 16) hx hb hts iwd_X7_findResource_X7 hown hK hP h0 (Wd_ob kg_5 sg_5 (by decide)) rfl 8 (by decide) (hts _ md_X7_findResource_4) (fun _ h9 => h9) (fl_q rfl ek_16) dX7_findResource_45 ?_
          refine lv_iload hx hb dX7_findResource_48 (lv_at hl 0 rfl) ?_
          obtain ⟨g_17, hf⟩ := grd_some hf
          obtain ⟨kg_17, sg_17, ig_17⟩ := okA_at g_17
          refine va_iald hx hb hK hP k_16 1 (Wd_ai kg_17 sg_17) rfl ig_17 dX7_findResource_50 ?_
          refine lv_iload hx hb dX7_findResource_51 (lv_at hl 4 rfl) ?_
          refine lv_icmp_ne (tgt := 59) hx hb dX7_findResource_53 (by decide) (fun c_18 => ?_) (fun c_18 => ?_)
          · skip
            rw [if_neg c_18] at hf
            exact B59 (z_2) ls H locs ⟨lv_sub hl [0, 1, 2, 3, 4] rfl, hP, hD, hS⟩ hf
          · skip
            rw [if_pos c_18] at hf
            refine lv_iload hx hb dX7_findResource_56 (lv_at hl 0 rfl) ?_
            obtain ⟨h8, h9⟩ := ret_some hf
            rw [h8, h9]
            exact W.iret (v := p_1) hx hb hr (fun t ht hW => ⟨⟨p_1, (), rfl, rfl, by rw [ht]; exact hP, va_K.moved hW.alike hK, hD⟩, hS.F ht⟩) hS.2.2 dX7_findResource_58

theorem md_X7_storedCoins_1 : (.fieldLink RX7 37 "ResourceLedger$State" "nodeCount" "[I" : Cond) ∈ wsX7_storedCoins := List.mem_of_getElem? (i := 1) rfl
theorem iwd_X7_storedCoins_X7 : ∀ w ∈ wsX70, w ∈ wsX7_storedCoins := fun _ h => List.mem_cons_of_mem _ (List.mem_append_right _ h)
theorem md_X7_storedCoins_2 : (.fieldLink RX7 40 "ResourceLedger$State" "nodeKind" "[B" : Cond) ∈ wsX7_storedCoins := List.mem_of_getElem? (i := 2) rfl
theorem md_X7_storedCoins_3 : (.fieldLink RX7 47 "ResourceLedger$State" "nodeLow" "[J" : Cond) ∈ wsX7_storedCoins := List.mem_of_getElem? (i := 3) rfl
def fn_X7_storedCoins_B57 (F : Nat) (sh : Nat → Nat × Nat) (n : Nat) (p_7 : Int64) (p_8 : Int32) (ko17 : St → Int64 → Int32 → Option (St × Int64)) (z_18 : St) (p_17 : Int64) : Option (St × Int64) := lt_ (p_7 + p_17) (fun v_19 => ko17 z_18 v_19 (p_8 + 1))
theorem fn_X7_storedCoins_B57_s {F : Nat} {sh : Nat → Nat × Nat} {n : Nat} {p_7 : Int64} {p_8 : Int32} {ko17 : St → Int64 → Int32 → Option (St × Int64)} {z_18 : St} {p_17 : Int64} {y : St × Int64} (h : fn_X7_storedCoins_B57 F sh n p_7 p_8 ko17 z_18 p_17 = some y) : (lt_ (p_7 + p_17) (fun v_19 => ko17 z_18 v_19 (p_8 + 1))) = some y := h
def fn_X7_storedCoins_L17 (F : Nat) (sh : Nat → Nat × Nat) (n : Nat) (h0 : Nat) (p_2 : Int32) (ko4 : St → Int64 → Int32 → Option (St × Int64)) : Nat → St → Int64 → Int32 → Option (St × Int64)
  | 0, _, _, _ => none
  | f_10 + 1, z_9, p_7, p_8 => grd (okO sh n h0 7) (lnk (z_9.2.2 h0 9) (fun k_12 => grd (okA sh n k_12 101 p_2) (if (((p_2 * 64) + (z_9.1 k_12 p_2.toNatClampNeg)) : Int32) ≤ p_8 then ko4 z_9 p_7 (p_2 + 1) else lnk (z_9.2.2 h0 11) (fun k_15 => grd (okA sh n k_15 100 p_8) (if ((z_9.1 k_15 p_8.toNatClampNeg) : Int32) = 10 then lnk (z_9.2.2 h0 13) (fun k_21 => grd (okA sh n k_21 102 p_8) (fn_X7_storedCoins_B57 F sh n p_7 p_8 (fun z9 q1 q4 => fn_X7_storedCoins_L17 F sh n h0 p_2 ko4 f_10 z9 q1 q4) z_9 (z_9.2.1 k_21 p_8.toNatClampNeg))) else fn_X7_storedCoins_B57 F sh n p_7 p_8 (fun z9 q1 q4 => fn_X7_storedCoins_L17 F sh n h0 p_2 ko4 f_10 z9 q1 q4) z_9 0)))))
theorem fn_X7_storedCoins_L17_s {F : Nat} {sh : Nat → Nat × Nat} {n : Nat} {h0 : Nat} {p_2 : Int32} {ko4 : St → Int64 → Int32 → Option (St × Int64)} {f_10 : Nat} {z_9 : St} {p_7 : Int64} {p_8 : Int32} {y : St × Int64} (h : fn_X7_storedCoins_L17 F sh n h0 p_2 ko4 (f_10 + 1) z_9 p_7 p_8 = some y) : (grd (okO sh n h0 7) (lnk (z_9.2.2 h0 9) (fun k_12 => grd (okA sh n k_12 101 p_2) (if (((p_2 * 64) + (z_9.1 k_12 p_2.toNatClampNeg)) : Int32) ≤ p_8 then ko4 z_9 p_7 (p_2 + 1) else lnk (z_9.2.2 h0 11) (fun k_15 => grd (okA sh n k_15 100 p_8) (if ((z_9.1 k_15 p_8.toNatClampNeg) : Int32) = 10 then lnk (z_9.2.2 h0 13) (fun k_21 => grd (okA sh n k_21 102 p_8) (fn_X7_storedCoins_B57 F sh n p_7 p_8 (fun z9 q1 q4 => fn_X7_storedCoins_L17 F sh n h0 p_2 ko4 f_10 z9 q1 q4) z_9 (z_9.2.1 k_21 p_8.toNatClampNeg))) else fn_X7_storedCoins_B57 F sh n p_7 p_8 (fun z9 q1 q4 => fn_X7_storedCoins_L17 F sh n h0 p_2 ko4 f_10 z9 q1 q4) z_9 0)))))) = some y := h
def fn_X7_storedCoins_L4 (F : Nat) (sh : Nat → Nat × Nat) (n : Nat) (h0 : Nat) : Nat → St → Int64 → Int32 → Option (St × Int64)
  | 0, _, _, _ => none
  | f_4 + 1, z_3, p_1, p_2 => if (256 : Int32) ≤ p_2 then some (z_3, p_1) else lt_ (p_2 * 64) (fun v_6 => fn_X7_storedCoins_L17 F sh n h0 p_2 (fun z9 q1 q3 => fn_X7_storedCoins_L4 F sh n h0 f_4 z9 q1 q3) F z_3 p_1 v_6)
theorem fn_X7_storedCoins_L4_s {F : Nat} {sh : Nat → Nat × Nat} {n : Nat} {h0 : Nat} {f_4 : Nat} {z_3 : St} {p_1 : Int64} {p_2 : Int32} {y : St × Int64} (h : fn_X7_storedCoins_L4 F sh n h0 (f_4 + 1) z_3 p_1 p_2 = some y) : (if (256 : Int32) ≤ p_2 then some (z_3, p_1) else lt_ (p_2 * 64) (fun v_6 => fn_X7_storedCoins_L17 F sh n h0 p_2 (fun z9 q1 q3 => fn_X7_storedCoins_L4 F sh n h0 f_4 z9 q1 q3) F z_3 p_1 v_6)) = some y := h
def fn_X7_storedCoins (F : Nat) (sh : Nat → Nat × Nat) (n : Nat) (z : St) (h0 : Nat) : Option (St × Int64) := fn_X7_storedCoins_L4 F sh n h0 F z 0 0
set_option maxHeartbeats 4000000 in
set_option maxRecDepth 100000 in
theorem de_X7_storedCoins (l : Launch) (dC : Nat → ClassId) (dI : Nat → Nat → Nat) (cy : Nat → ClassId) (a : Nat → Nat) (sh : Nat → Nat × Nat) (n sz : Nat) (F : Nat) (z : St) (h0 : Nat) {z8 : St} {r8 : Int64} (hf : fn_X7_storedCoins F sh n z h0 = some (z8, r8)) : Met l yX7_storedCoins wsX7_storedCoins ({ frames := 0, cells := 0, slots := 0, locals := 0 }) (va_Pc [.ref (a h0)] (fun U => U.heap.size = sz ∧ va_P (dC, dI) vwCl (Wd cy a sh n z) U.heap ∧ va_K (dC, dI) vwCl (TYS cy) U ∧ va_D (fun _ => True) (Wd cy a sh n z) ∧ NK U)) (va_Ql (fun (r9 : Int64) (u : Unit) => r9 = r8) (fun u t => va_P (dC, dI) vwCl (Wd cy a sh n z8) t.heap ∧ va_K (dC, dI) vwCl (TYS cy) t ∧ va_D (va_A (Wd cy a sh n z) sz) (Wd cy a sh n z8)) (va_A (Wd cy a sh n z) sz)) 0 0 (va_A (Wd cy a sh n z) sz) := by
  refine Met.ofW (cc := cX7_storedCoins) (maxL := 5) (ret := (some .long)) (by decide) rfl ?_
  intro p e s m args below meth c s₁ B hml hv
  obtain ⟨rfl, hsz, hP, hK, hD0, hN⟩ := hv
  have hx := B.exec
  have hb := B.bytes
  have hr := B.returns
  have hts := atoms_spec (ws := wsX7_storedCoins) B.pre
  have hown : s.vm.findClass RX7 = some m.cls := findClass_of_methodNamed B.named
  have hlocks := B.notSynchronized
  subst hsz
  have hD := hD0.self (sz := s.heap.size)
  clear hD0
  generalize hAe : va_A (Wd cy a sh n z) s.heap.size = A at hD ⊢
  have hA : ∀ q : Nat, s.heap.size ≤ q → A q := fun q h => by rw [← hAe]; exact Or.inr h
  clear hAe
  have hS : va_S A s.heap s.heap [] := va_S.rf
  have hl := lv_entry ([.ref (a h0)]) (n := 5) (Nat.le_of_ble_eq_true rfl)
  rw [lg_entry_eq]
  generalize (lg_sl ([.ref (a h0)]) ++ List.replicate (5 - (lg_sl ([.ref (a h0)])).length) Slot.unset).toArray = ls at hl ⊢
  replace hl : lv_has ls 5 [(0, .ref (a h0))] := hl
  unfold fn_X7_storedCoins at hf
  refine de_start hS hP (fun H locs hS hP => ?_)
  refine lv_lconst (v := 0) hx hb dX7_storedCoins_0 (by decide) ?_
  refine lv_lstore_n (lv' := [(1, .long 0), (0, .ref (a h0))]) hx hb dX7_storedCoins_1 rfl hl (by decide) rfl (fun ls hl2 => ?_)
  replace hl := hl2
  clear hl2
  refine lv_iconst (v := 0) hx hb dX7_storedCoins_2 (by decide) ?_
  refine lv_istore_n (lv' := [(3, .int 0), (1, .long 0), (0, .ref (a h0))]) hx hb dX7_storedCoins_3 rfl hl (by decide) rfl (fun ls hl2 => ?_)
  replace hl := hl2
  clear hl2
  have hl0 : lv_has ls 5 [(3, .int 0), (1, .long 0), (0, .ref (a h0))] := lv_sub hl [0, 1, 2] rfl
  refine de_loop (h := 4) (fun (x : St × Int64 × Int32) ls H locs => lv_has ls 5 [(3, .int x.2.2), (1, .long x.2.1), (0, .ref (a h0))] ∧ va_P (dC, dI) vwCl (Wd cy a sh n x.1) H ∧ va_D A (Wd cy a sh n x.1) ∧ va_S A s.heap H locs) (fun f x => fn_X7_storedCoins_L4 F sh n h0 f x.1 x.2.1 x.2.2) (z8, r8) ?_ (fun _ => rfl) F (z, 0, 0) ls H locs ⟨hl0, hP, hD, hS⟩ hf
  intro f_4 x ls H locs ih4 hI hf
  obtain ⟨z_3, p_1, p_2⟩ := x
  obtain ⟨hl2, hP2, hD2, hS2⟩ := hI
  replace hl : lv_has ls 5 [(3, .int p_2), (1, .long p_1), (0, .ref (a h0))] := hl2
  replace hP := hP2
  replace hD := hD2
  replace hS := hS2
  clear hl2 hP2 hD2 hS2 hl0
  replace hf := fn_X7_storedCoins_L4_s hf
  refine lv_iload_n hx hb dX7_storedCoins_4 rfl (lv_at hl 0 rfl) ?_
  refine lv_sipush (v := 256) hx hb dX7_storedCoins_5 (by decide) ?_
  refine lv_icmp_ge (tgt := 71) hx hb dX7_storedCoins_8 (by decide) (fun c_5 => ?_) (fun c_5 => ?_)
  · skip
    rw [if_pos c_5] at hf
    refine lv_lload_n hx hb dX7_storedCoins_71 rfl (lv_at hl 1 rfl) ?_
    obtain ⟨h8, h9⟩ := ret_some hf
    rw [h8, h9]
    exact W.lret (v := p_1) hx hb hr (fun t ht hW => ⟨⟨p_1, (), rfl, rfl, by rw [ht]; exact hP, va_K.moved hW.alike hK, hD⟩, hS.F ht⟩) hS.2.2 dX7_storedCoins_72
  · skip
    rw [if_neg c_5] at hf
    refine lv_iload_n hx hb dX7_storedCoins_11 rfl (lv_at hl 0 rfl) ?_
    refine lv_bipush (v := 64) hx hb dX7_storedCoins_12 (by decide) ?_
    refine lv_imul hx hb dX7_storedCoins_14 ?_
    refine lv_topi (fun v_6 ev_6 => ?_)
    replace hf := lt_at ev_6 hf
    clear ev_6
    refine lv_istore (lv' := [(4, .int v_6), (3, .int p_2), (1, .long p_1), (0, .ref (a h0))]) hx hb dX7_storedCoins_15 hl (by decide) rfl (fun ls hl2 => ?_)
    replace hl := hl2
    clear hl2
    have hl0 : lv_has ls 5 [(4, .int v_6), (3, .int p_2), (1, .long p_1), (0, .ref (a h0))] := lv_sub hl [0, 1, 2, 3] rfl
    refine de_loop (h := 17) (fun (x : St × Int64 × Int32) ls H locs => lv_has ls 5 [(4, .int x.2.2), (3, .int p_2), (1, .long x.2.1), (0, .ref (a h0))] ∧ va_P (dC, dI) vwCl (Wd cy a sh n x.1) H ∧ va_D A (Wd cy a sh n x.1) ∧ va_S A s.heap H locs) (fun f x => fn_X7_storedCoins_L17 F sh n h0 p_2 (fun z9 q1 q3 => fn_X7_storedCoins_L4 F sh n h0 f_4 z9 q1 q3) f x.1 x.2.1 x.2.2) (z8, r8) ?_ (fun _ => rfl) F (z_3, p_1, v_6) ls H locs ⟨hl0, hP, hD, hS⟩ hf
    intro f_10 x ls H locs ih17 hI hf
    obtain ⟨z_9, p_7, p_8⟩ := x
    obtain ⟨hl2, hP2, hD2, hS2⟩ := hI
    replace hl : lv_has ls 5 [(4, .int p_8), (3, .int p_2), (1, .long p_7), (0, .ref (a h0))] := hl2
    replace hP := hP2
    replace hD := hD2
    replace hS := hS2
    clear hl2 hP2 hD2 hS2 hl0
    replace hf := fn_X7_storedCoins_L17_s hf
    refine lv_iload hx hb dX7_storedCoins_17 (lv_at hl 0 rfl) ?_
    refine lv_iload_n hx hb dX7_storedCoins_19 rfl (lv_at hl 1 rfl) ?_
    refine lv_bipush (v := 64) hx hb dX7_storedCoins_20 (by decide) ?_
    refine lv_imul hx hb dX7_storedCoins_22 ?_
    refine lv_aload_n hx hb dX7_storedCoins_23 rfl (lv_at hl 3 rfl) ?_
    obtain ⟨g_11, hf⟩ := grd_some hf
    obtain ⟨kg_11, sg_11⟩ := okO_at g_11
    obtain ⟨k_12, ek_12, hf⟩ := lnk_some hf
    refine va_get (D := (dC, dI)) (ci := 7) (v := .ref (a k_12)) (C := RX7) (T := TX7) (N := 16) hx hb hts iwd_X7_storedCoins_X7 hown hK hP h0 (Wd_ob kg_11 sg_11 (by decide)) rfl 9 (by decide) (hts _ md_X7_storedCoins_1) (fun _ h9 => h9) (fl_q rfl ek_12) dX7_storedCoins_24 ?_
    refine lv_iload_n hx hb dX7_storedCoins_27 rfl (lv_at hl 1 rfl) ?_
    obtain ⟨g_13, hf⟩ := grd_some hf
    obtain ⟨kg_13, sg_13, ig_13⟩ := okA_at g_13
    refine va_iald hx hb hK hP k_12 1 (Wd_ai kg_13 sg_13) rfl ig_13 dX7_storedCoins_28 ?_
    refine lv_iadd hx hb dX7_storedCoins_29 ?_
    refine lv_icmp_ge (tgt := 65) hx hb dX7_storedCoins_30 (by decide) (fun c_14 => ?_) (fun c_14 => ?_)
    · skip
      rw [if_pos c_14] at hf
      refine lv_iinc (v := (p_2 + 1)) (lv' := [(3, .int (p_2 + 1)), (4, .int p_8), (1, .long p_7), (0, .ref (a h0))]) hx hb dX7_storedCoins_65 hl (k := 1) rfl rfl (by decide) rfl (fun ls hl2 => ?_)
      replace hl := hl2
      clear hl2
      refine lv_goto (tgt := 4) hx hb dX7_storedCoins_68 (by decide) ?_
      exact ih4 (z_9, p_7, (p_2 + 1)) ls H locs ⟨lv_sub hl [0, 2, 3] rfl, hP, hD, hS⟩ hf
    · skip
      rw [if_neg c_14] at hf
      refine lv_lload_n hx hb dX7_storedCoins_33 rfl (lv_at hl 2 rfl) ?_
      refine lv_aload_n hx hb dX7_storedCoins_34 rfl (lv_at hl 3 rfl) ?_
      obtain ⟨k_15, ek_15, hf⟩ := lnk_some hf
      refine va_get (D := (dC, dI)) (ci := 7) (v := .ref (a k_15)) (C := RX7) (T := TX7) (N := 16) hx hb hts iwd_X7_storedCoins_X7 hown hK hP h0 (Wd_ob kg_11 sg_11 (by decide)) rfl 11 (by decide) (hts _ md_X7_storedCoins_2) (fun _ h9 => h9) (fl_q rfl ek_15) dX7_storedCoins_35 ?_
      refine lv_iload hx hb dX7_storedCoins_38 (lv_at hl 0 rfl) ?_
      obtain ⟨g_16, hf⟩ := grd_some hf
      obtain ⟨kg_16, sg_16, ig_16⟩ := okA_at g_16
      refine va_bald hx hb hK hP k_15 0 (Wd_ab kg_16 sg_16) rfl ig_16 dX7_storedCoins_40 ?_
      refine lv_bipush (v := 10) hx hb dX7_storedCoins_41 (by decide) ?_
      refine de_cut (h := 57) (fun (x : St × Int64) => [.long x.2, .long p_7]) (fun x ls H locs => lv_has ls 5 [(4, .int p_8), (3, .int p_2), (0, .ref (a h0))] ∧ va_P (dC, dI) vwCl (Wd cy a sh n x.1) H ∧ va_D A (Wd cy a sh n x.1) ∧ va_S A s.heap H locs) (fun x => fn_X7_storedCoins_B57 F sh n p_7 p_8 (fun z9 q1 q4 => fn_X7_storedCoins_L17 F sh n h0 p_2 (fun z9 q1 q3 => fn_X7_storedCoins_L4 F sh n h0 f_4 z9 q1 q3) f_10 z9 q1 q4) x.1 x.2) (z8, r8) ?_ (fun B57 => ?_)
      · intro x ls H locs hI hf
        obtain ⟨z_18, p_17⟩ := x
        obtain ⟨hl2, hP2, hD2, hS2⟩ := hI
        replace hl : lv_has ls 5 [(4, .int p_8), (3, .int p_2), (0, .ref (a h0))] := hl2
        replace hP := hP2
        replace hD := hD2
        replace hS := hS2
        clear hl2 hP2 hD2 hS2
        replace hf := fn_X7_storedCoins_B57_s hf
        refine W.eq (g2 := F0 m 57 ls [.long p_17, .long p_7]) rfl ?_
        refine lv_ladd hx hb dX7_storedCoins_57 ?_
        refine lv_topl (fun v_19 ev_19 => ?_)
        replace hf := lt_at ev_19 hf
        clear ev_19
        refine lv_lstore_n (lv' := [(1, .long v_19), (4, .int p_8), (3, .int p_2), (0, .ref (a h0))]) hx hb dX7_storedCoins_58 rfl hl (by decide) rfl (fun ls hl2 => ?_)
        replace hl := hl2
        clear hl2
        refine lv_iinc (v := (p_8 + 1)) (lv' := [(4, .int (p_8 + 1)), (1, .long v_19), (3, .int p_2), (0, .ref (a h0))]) hx hb dX7_storedCoins_59 hl (k := 1) rfl rfl (by decide) rfl (fun ls hl2 => ?_)
        replace hl := hl2
        clear hl2
        refine lv_goto (tgt := 17) hx hb dX7_storedCoins_62 (by decide) ?_
        exact ih17 (z_18, v_19, (p_8 + 1)) ls H locs ⟨lv_sub hl [0, 2, 1, 3] rfl, hP, hD, hS⟩ hf
      refine lv_icmp_ne (tgt := 56) hx hb dX7_storedCoins_43 (by decide) (fun c_20 => ?_) (fun c_20 => ?_)
      · skip
        rw [if_neg c_20] at hf
        refine lv_lconst (v := 0) hx hb dX7_storedCoins_56 (by decide) ?_
        exact B57 (z_9, 0) ls H locs ⟨lv_sub hl [0, 1, 3] rfl, hP, hD, hS⟩ hf
      · skip
        rw [if_pos c_20] at hf
        refine lv_aload_n hx hb dX7_storedCoins_46 rfl (lv_at hl 3 rfl) ?_
        obtain ⟨k_21, ek_21, hf⟩ := lnk_some hf
        refine va_get (D := (dC, dI)) (ci := 7) (v := .ref (a k_21)) (C := RX7) (T := TX7) (N := 16) hx hb hts iwd_X7_storedCoins_X7 hown hK hP h0 (Wd_ob kg_11 sg_11 (by decide)) rfl 13 (by decide) (hts _ md_X7_storedCoins_3) (fun _ h9 => h9) (fl_q rfl ek_21) dX7_storedCoins_47 ?_
        refine lv_iload hx hb dX7_storedCoins_50 (lv_at hl 0 rfl) ?_
        obtain ⟨g_22, hf⟩ := grd_some hf
        obtain ⟨kg_22, sg_22, ig_22⟩ := okA_at g_22
        refine va_lald hx hb hK hP k_21 2 (Wd_al kg_22 sg_22) rfl ig_22 dX7_storedCoins_52 ?_
        refine lv_goto (tgt := 57) hx hb dX7_storedCoins_53 (by decide) ?_
        exact B57 (z_9, (z_9.2.1 k_21 p_8.toNatClampNeg)) ls H locs ⟨lv_sub hl [0, 1, 3] rfl, hP, hD, hS⟩ hf

theorem md_X11_coins_1 : (.fieldLink RX11 22 "ResourceLedger" "state" "LResourceLedger$State;" : Cond) ∈ wsX11_coins := List.mem_of_getElem? (i := 1) rfl
theorem iwd_X11_coins_X11 : ∀ w ∈ wsX110, w ∈ wsX11_coins := fun _ h => List.mem_cons_of_mem _ (List.mem_append_left _ (List.mem_append_right _ h))
theorem md_X11_coins_2 : (.fieldLink RX11 86 "ResourceLedger$State" "minted" "J" : Cond) ∈ wsX11_coins := List.mem_of_getElem? (i := 2) rfl
theorem iwd_X11_coins_X7 : ∀ w ∈ wsX70, w ∈ wsX11_coins := fun _ h => List.mem_cons_of_mem _ (List.mem_append_right _ h)
theorem md_X11_coins_3 : (.fieldLink RX11 90 "ResourceLedger$State" "burned" "J" : Cond) ∈ wsX11_coins := List.mem_of_getElem? (i := 3) rfl
def fn_X11_coins (F : Nat) (sh : Nat → Nat × Nat) (n : Nat) (z : St) (h0 : Nat) (x0 : Int32) : Option (St × Int64) := if (x0 : Int32) = 0 then grd (okO sh n h0 11) (lnk (z.2.2 h0 6) (fun k_3 => grd (okO sh n k_3 7) (some (z, (z.2.1 k_3 14))))) else if (x0 : Int32) = 1 then grd (okO sh n h0 11) (lnk (z.2.2 h0 6) (fun k_7 => grd (okO sh n k_7 7) (some (z, (z.2.1 k_7 15))))) else if (x0 : Int32) = 2 then grd (okO sh n h0 11) (lnk (z.2.2 h0 6) (fun k_11 => grd (okO sh n k_11 7) (cal (fn_X7_allBalances F sh n z k_11) (fun z_12 r_13 => some (z_12, r_13))))) else if (x0 : Int32) = 3 then grd (okO sh n h0 11) (lnk (z.2.2 h0 6) (fun k_18 => grd (okO sh n k_18 7) (cal (fn_X7_storedCoins F sh n z k_18) (fun z_19 r_20 => some (z_19, r_20))))) else some (z, 0)
set_option maxHeartbeats 4000000 in
set_option maxRecDepth 100000 in
theorem de_X11_coins (l : Launch) (dC : Nat → ClassId) (dI : Nat → Nat → Nat) (cy : Nat → ClassId) (a : Nat → Nat) (sh : Nat → Nat × Nat) (n sz : Nat) (F : Nat) (z : St) (h0 : Nat) (x0 : Int32) {z8 : St} {r8 : Int64} (hf : fn_X11_coins F sh n z h0 x0 = some (z8, r8)) : Met l yX11_coins wsX11_coins ({ frames := 1, cells := 0, slots := 0, locals := 24 }) (va_Pc [.ref (a h0), .int x0] (fun U => U.heap.size = sz ∧ va_P (dC, dI) vwCl (Wd cy a sh n z) U.heap ∧ va_K (dC, dI) vwCl (TYS cy) U ∧ va_D (fun _ => True) (Wd cy a sh n z) ∧ NK U)) (va_Ql (fun (r9 : Int64) (u : Unit) => r9 = r8) (fun u t => va_P (dC, dI) vwCl (Wd cy a sh n z8) t.heap ∧ va_K (dC, dI) vwCl (TYS cy) t ∧ va_D (va_A (Wd cy a sh n z) sz) (Wd cy a sh n z8)) (va_A (Wd cy a sh n z) sz)) 0 0 (va_A (Wd cy a sh n z) sz) := by
  refine Met.ofW (cc := cX11_coins) (maxL := 2) (ret := (some .long)) (by decide) rfl ?_
  intro p e s m args below meth c s₁ B hml hv
  obtain ⟨rfl, hsz, hP, hK, hD0, hN⟩ := hv
  have hx := B.exec
  have hb := B.bytes
  have hr := B.returns
  have hts := atoms_spec (ws := wsX11_coins) B.pre
  have hown : s.vm.findClass RX11 = some m.cls := findClass_of_methodNamed B.named
  have hlocks := B.notSynchronized
  subst hsz
  have hD := hD0.self (sz := s.heap.size)
  clear hD0
  generalize hAe : va_A (Wd cy a sh n z) s.heap.size = A at hD ⊢
  have hA : ∀ q : Nat, s.heap.size ≤ q → A q := fun q h => by rw [← hAe]; exact Or.inr h
  clear hAe
  have hS : va_S A s.heap s.heap [] := va_S.rf
  have hl := lv_entry ([.ref (a h0), .int x0]) (n := 2) (Nat.le_of_ble_eq_true rfl)
  rw [lg_entry_eq]
  generalize (lg_sl ([.ref (a h0), .int x0]) ++ List.replicate (2 - (lg_sl ([.ref (a h0), .int x0])).length) Slot.unset).toArray = ls at hl ⊢
  replace hl : lv_has ls 2 [(0, .ref (a h0)), (1, .int x0)] := hl
  unfold fn_X11_coins at hf
  refine de_start hS hP (fun H locs hS hP => ?_)
  refine lv_iload_n hx hb dX11_coins_0 rfl (lv_at hl 1 rfl) ?_
  by_cases c_1 : x0 = 0
  · skip
    rw [if_pos c_1] at hf
    refine lv_tableIn (tgt := 32) hx hb dX11_coins_1 (by rw [c_1]; decide) (by rw [c_1]; decide) (by rw [c_1]; rfl) (by decide) ?_
    refine lv_aload_n hx hb dX11_coins_32 rfl (lv_at hl 0 rfl) ?_
    obtain ⟨g_2, hf⟩ := grd_some hf
    obtain ⟨kg_2, sg_2⟩ := okO_at g_2
    obtain ⟨k_3, ek_3, hf⟩ := lnk_some hf
    refine va_get (D := (dC, dI)) (ci := 11) (v := .ref (a k_3)) (C := RX11) (T := TX11) (N := 13) hx hb hts iwd_X11_coins_X11 hown hK hP h0 (Wd_ob kg_2 sg_2 (by decide)) rfl 6 (by decide) (hts _ md_X11_coins_1) (fun _ h9 => h9) (fl_q rfl ek_3) dX11_coins_33 ?_
    obtain ⟨g_4, hf⟩ := grd_some hf
    obtain ⟨kg_4, sg_4⟩ := okO_at g_4
    refine va_get (D := (dC, dI)) (ci := 7) (v := .long (z.2.1 k_3 14)) (C := RX7) (T := TX7) (N := 16) hx hb hts iwd_X11_coins_X7 hown hK hP k_3 (Wd_ob kg_4 sg_4 (by decide)) rfl 14 (by decide) (hts _ md_X11_coins_2) (fun _ h9 => h9) (fl_at (t := 1) rfl) dX11_coins_36 ?_
    obtain ⟨h8, h9⟩ := ret_some hf
    rw [h8, h9]
    exact W.lret (v := (z.2.1 k_3 14)) hx hb hr (fun t ht hW => ⟨⟨(z.2.1 k_3 14), (), rfl, rfl, by rw [ht]; exact hP, va_K.moved hW.alike hK, hD⟩, hS.F ht⟩) hS.2.2 dX11_coins_39
  rw [if_neg c_1] at hf
  by_cases c_5 : x0 = 1
  · skip
    rw [if_pos c_5] at hf
    refine lv_tableIn (tgt := 40) hx hb dX11_coins_1 (by rw [c_5]; decide) (by rw [c_5]; decide) (by rw [c_5]; rfl) (by decide) ?_
    refine lv_aload_n hx hb dX11_coins_40 rfl (lv_at hl 0 rfl) ?_
    obtain ⟨g_6, hf⟩ := grd_some hf
    obtain ⟨kg_6, sg_6⟩ := okO_at g_6
    obtain ⟨k_7, ek_7, hf⟩ := lnk_some hf
    refine va_get (D := (dC, dI)) (ci := 11) (v := .ref (a k_7)) (C := RX11) (T := TX11) (N := 13) hx hb hts iwd_X11_coins_X11 hown hK hP h0 (Wd_ob kg_6 sg_6 (by decide)) rfl 6 (by decide) (hts _ md_X11_coins_1) (fun _ h9 => h9) (fl_q rfl ek_7) dX11_coins_41 ?_
    obtain ⟨g_8, hf⟩ := grd_some hf
    obtain ⟨kg_8, sg_8⟩ := okO_at g_8
    refine va_get (D := (dC, dI)) (ci := 7) (v := .long (z.2.1 k_7 15)) (C := RX7) (T := TX7) (N := 16) hx hb hts iwd_X11_coins_X7 hown hK hP k_7 (Wd_ob kg_8 sg_8 (by decide)) rfl 15 (by decide) (hts _ md_X11_coins_3) (fun _ h9 => h9) (fl_at (t := 1) rfl) dX11_coins_44 ?_
    obtain ⟨h8, h9⟩ := ret_some hf
    rw [h8, h9]
    exact W.lret (v := (z.2.1 k_7 15)) hx hb hr (fun t ht hW => ⟨⟨(z.2.1 k_7 15), (), rfl, rfl, by rw [ht]; exact hP, va_K.moved hW.alike hK, hD⟩, hS.F ht⟩) hS.2.2 dX11_coins_47
  rw [if_neg c_5] at hf
  by_cases c_9 : x0 = 2
  · skip
    rw [if_pos c_9] at hf
    refine lv_tableIn (tgt := 48) hx hb dX11_coins_1 (by rw [c_9]; decide) (by rw [c_9]; decide) (by rw [c_9]; rfl) (by decide) ?_
    refine lv_aload_n hx hb dX11_coins_48 rfl (lv_at hl 0 rfl) ?_
    obtain ⟨g_10, hf⟩ := grd_some hf
    obtain ⟨kg_10, sg_10⟩ := okO_at g_10
    obtain ⟨k_11, ek_11, hf⟩ := lnk_some hf
    refine va_get (D := (dC, dI)) (ci := 11) (v := .ref (a k_11)) (C := RX11) (T := TX11) (N := 13) hx hb hts iwd_X11_coins_X11 hown hK hP h0 (Wd_ob kg_10 sg_10 (by decide)) rfl 6 (by decide) (hts _ md_X11_coins_1) (fun _ h9 => h9) (fl_q rfl ek_11) dX11_coins_49 ?_
    obtain ⟨g_14, hf⟩ := grd_some hf
    obtain ⟨kg_14, sg_14⟩ := okO_at g_14
    obtain ⟨z_12, r_13, hfc, hf⟩ := cal_some hf
    have hFc := de_free hD hS hA
    refine va_calll (va_runV (As := []) (rest := []) ⟨hx, hb, hml, hown, hts⟩ (de_X7_allBalances l dC dI cy a sh n H.size F z k_11 hfc) (cwV 0 hts gX11_coins_X7_allBalances rfl rfl rfl (by decide +kernel) ⟨Nat.le_of_ble_eq_true rfl, Nat.le_of_ble_eq_true rfl⟩) ⟨fun a U g mk q => by obtain ⟨q0, q1, qP, qK, qD, qN⟩ := q; exact ⟨q0, q1, qP, va_K.moved (u := U) (U := U.calling g mk a) (Vm.Alike.refl U.vm) qK, qD, qN.same rfl⟩, va_recv hK hP (ci := 7) (q0 := k_11) rfl (Wd_ob kg_14 sg_14 (by decide)), fun U hU hW => ⟨rfl, by rw [hU], by rw [hU]; exact hP, va_K.moved hW.alike hK, hD.weaken (fun _ _ _ _ => trivial), hN.warm hW⟩⟩ rfl rfl hl.1 rfl (lv_room (Nat.le_of_ble_eq_true rfl)) dX11_coins_52 ⟨Nat.le_of_ble_eq_true rfl, Nat.le_of_ble_eq_true rfl⟩) hS (fun q _ h => hFc q h) hFc (fun rr u t H_15 locs ht hvm hw hB hz1 hk1 hS2 => ?_)
    rw [hw]
    clear hw
    obtain ⟨hP1, -, hD1⟩ := hB
    rw [ht] at hP1
    replace hD := hD1.weaken (fun _ _ _ h => hFc _ h)
    replace hP := hP1
    replace hS := hS2
    clear hP1 hD1 hS2 hFc hfc hz1 hk1 hvm ht
    obtain ⟨h8, h9⟩ := ret_some hf
    rw [h8, h9]
    exact W.lret (v := r_13) hx hb hr (fun t ht hW => ⟨⟨r_13, (), rfl, rfl, by rw [ht]; exact hP, va_K.moved hW.alike hK, hD⟩, hS.F ht⟩) hS.2.2 dX11_coins_55
  rw [if_neg c_9] at hf
  by_cases c_16 : x0 = 3
  · skip
    rw [if_pos c_16] at hf
    refine lv_tableIn (tgt := 56) hx hb dX11_coins_1 (by rw [c_16]; decide) (by rw [c_16]; decide) (by rw [c_16]; rfl) (by decide) ?_
    refine lv_aload_n hx hb dX11_coins_56 rfl (lv_at hl 0 rfl) ?_
    obtain ⟨g_17, hf⟩ := grd_some hf
    obtain ⟨kg_17, sg_17⟩ := okO_at g_17
    obtain ⟨k_18, ek_18, hf⟩ := lnk_some hf
    refine va_get (D := (dC, dI)) (ci := 11) (v := .ref (a k_18)) (C := RX11) (T := TX11) (N := 13) hx hb hts iwd_X11_coins_X11 hown hK hP h0 (Wd_ob kg_17 sg_17 (by decide)) rfl 6 (by decide) (hts _ md_X11_coins_1) (fun _ h9 => h9) (fl_q rfl ek_18) dX11_coins_57 ?_
    obtain ⟨g_21, hf⟩ := grd_some hf
    obtain ⟨kg_21, sg_21⟩ := okO_at g_21
    obtain ⟨z_19, r_20, hfc, hf⟩ := cal_some hf
    have hFc := de_free hD hS hA
    refine va_calll (va_runV (As := []) (rest := []) ⟨hx, hb, hml, hown, hts⟩ (de_X7_storedCoins l dC dI cy a sh n H.size F z k_18 hfc) (cwV 0 hts gX11_coins_X7_storedCoins rfl rfl rfl (by decide +kernel) ⟨Nat.le_of_ble_eq_true rfl, Nat.le_of_ble_eq_true rfl⟩) ⟨fun a U g mk q => by obtain ⟨q0, q1, qP, qK, qD, qN⟩ := q; exact ⟨q0, q1, qP, va_K.moved (u := U) (U := U.calling g mk a) (Vm.Alike.refl U.vm) qK, qD, qN.same rfl⟩, va_recv hK hP (ci := 7) (q0 := k_18) rfl (Wd_ob kg_21 sg_21 (by decide)), fun U hU hW => ⟨rfl, by rw [hU], by rw [hU]; exact hP, va_K.moved hW.alike hK, hD.weaken (fun _ _ _ _ => trivial), hN.warm hW⟩⟩ rfl rfl hl.1 rfl (lv_room (Nat.le_of_ble_eq_true rfl)) dX11_coins_60 ⟨Nat.le_of_ble_eq_true rfl, Nat.le_of_ble_eq_true rfl⟩) hS (fun q _ h => hFc q h) hFc (fun rr u t H_22 locs ht hvm hw hB hz1 hk1 hS2 => ?_)
    rw [hw]
    clear hw
    obtain ⟨hP1, -, hD1⟩ := hB
    rw [ht] at hP1
    replace hD := hD1.weaken (fun _ _ _ h => hFc _ h)
    replace hP := hP1
    replace hS := hS2
    clear hP1 hD1 hS2 hFc hfc hz1 hk1 hvm ht
    obtain ⟨h8, h9⟩ := ret_some hf
    rw [h8, h9]
    exact W.lret (v := r_20) hx hb hr (fun t ht hW => ⟨⟨r_20, (), rfl, rfl, by rw [ht]; exact hP, va_K.moved hW.alike hK, hD⟩, hS.F ht⟩) hS.2.2 dX11_coins_63
  rw [if_neg c_16] at hf
  refine lv_tableOut (tgt := 64) hx hb dX11_coins_1 (tbd_0_3 c_1 c_5 c_9 c_16) (by decide) ?_
  refine lv_lconst (v := 0) hx hb dX11_coins_64 (by decide) ?_
  obtain ⟨h8, h9⟩ := ret_some hf
  rw [h8, h9]
  exact W.lret (v := 0) hx hb hr (fun t ht hW => ⟨⟨0, (), rfl, rfl, by rw [ht]; exact hP, va_K.moved hW.alike hK, hD⟩, hS.F ht⟩) hS.2.2 dX11_coins_65

theorem md_X18_isDone_1 : (.fieldLink RX18 628 "ResourceLedgerModel" "done" "I" : Cond) ∈ wsX18_isDone := List.mem_of_getElem? (i := 1) rfl
theorem iwd_X18_isDone_X18 : ∀ w ∈ wsX180, w ∈ wsX18_isDone := fun _ h => List.mem_cons_of_mem _ (List.mem_append_right _ h)
def fn_X18_isDone (F : Nat) (sh : Nat → Nat × Nat) (n : Nat) (z : St) (h0 : Nat) (x0 : Int32) : Option (St × Int32) := if (x0 : Int32) < 0 then some (z, 0) else grd (okO sh n h0 18) (if ((z.1 h0 53) : Int32) ≤ x0 then some (z, 0) else some (z, 1))
set_option maxHeartbeats 4000000 in
set_option maxRecDepth 100000 in
theorem de_X18_isDone (l : Launch) (dC : Nat → ClassId) (dI : Nat → Nat → Nat) (cy : Nat → ClassId) (a : Nat → Nat) (sh : Nat → Nat × Nat) (n sz : Nat) (F : Nat) (z : St) (h0 : Nat) (x0 : Int32) {z8 : St} {r8 : Int32} (hf : fn_X18_isDone F sh n z h0 x0 = some (z8, r8)) : Met l yX18_isDone wsX18_isDone ({ frames := 0, cells := 0, slots := 0, locals := 0 }) (va_Pc [.ref (a h0), .int x0] (fun U => U.heap.size = sz ∧ va_P (dC, dI) vwCl (Wd cy a sh n z) U.heap ∧ va_K (dC, dI) vwCl (TYS cy) U ∧ va_D (fun _ => True) (Wd cy a sh n z) ∧ NK U)) (va_Qi (fun (r9 : Int32) (u : Unit) => r9 = r8) (fun u t => va_P (dC, dI) vwCl (Wd cy a sh n z8) t.heap ∧ va_K (dC, dI) vwCl (TYS cy) t ∧ va_D (va_A (Wd cy a sh n z) sz) (Wd cy a sh n z8)) (va_A (Wd cy a sh n z) sz)) 0 0 (va_A (Wd cy a sh n z) sz) := by
  refine Met.ofW (cc := cX18_isDone) (maxL := 2) (ret := (some .boolean)) (by decide) rfl ?_
  intro p e s m args below meth c s₁ B hml hv
  obtain ⟨rfl, hsz, hP, hK, hD0, hN⟩ := hv
  have hx := B.exec
  have hb := B.bytes
  have hr := B.returns
  have hts := atoms_spec (ws := wsX18_isDone) B.pre
  have hown : s.vm.findClass RX18 = some m.cls := findClass_of_methodNamed B.named
  have hlocks := B.notSynchronized
  subst hsz
  have hD := hD0.self (sz := s.heap.size)
  clear hD0
  generalize hAe : va_A (Wd cy a sh n z) s.heap.size = A at hD ⊢
  have hA : ∀ q : Nat, s.heap.size ≤ q → A q := fun q h => by rw [← hAe]; exact Or.inr h
  clear hAe
  have hS : va_S A s.heap s.heap [] := va_S.rf
  have hl := lv_entry ([.ref (a h0), .int x0]) (n := 2) (Nat.le_of_ble_eq_true rfl)
  rw [lg_entry_eq]
  generalize (lg_sl ([.ref (a h0), .int x0]) ++ List.replicate (2 - (lg_sl ([.ref (a h0), .int x0])).length) Slot.unset).toArray = ls at hl ⊢
  replace hl : lv_has ls 2 [(0, .ref (a h0)), (1, .int x0)] := hl
  unfold fn_X18_isDone at hf
  refine de_start hS hP (fun H locs hS hP => ?_)
  refine lv_iload_n hx hb dX18_isDone_0 rfl (lv_at hl 1 rfl) ?_
  refine lv_if_lt (tgt := 16) hx hb dX18_isDone_1 (by decide) (fun c_1 => ?_) (fun c_1 => ?_)
  · skip
    rw [if_pos c_1] at hf
    refine lv_iconst (v := 0) hx hb dX18_isDone_16 (by decide) ?_
    obtain ⟨h8, h9⟩ := ret_some hf
    rw [h8, h9]
    exact W.zret (v := 0) hx hb hr rfl (fun t ht hW => ⟨⟨0, (), rfl, rfl, by rw [ht]; exact hP, va_K.moved hW.alike hK, hD⟩, hS.F ht⟩) hS.2.2 dX18_isDone_17
  · skip
    rw [if_neg c_1] at hf
    refine lv_iload_n hx hb dX18_isDone_4 rfl (lv_at hl 1 rfl) ?_
    refine lv_aload_n hx hb dX18_isDone_5 rfl (lv_at hl 0 rfl) ?_
    obtain ⟨g_2, hf⟩ := grd_some hf
    obtain ⟨kg_2, sg_2⟩ := okO_at g_2
    refine va_get (D := (dC, dI)) (ci := 18) (v := .int (z.1 h0 53)) (C := RX18) (T := TX18) (N := 78) hx hb hts iwd_X18_isDone_X18 hown hK hP h0 (Wd_ob kg_2 sg_2 (by decide)) rfl 53 (by decide) (hts _ md_X18_isDone_1) (fun _ h9 => h9) (fl_at (t := 0) rfl) dX18_isDone_6 ?_
    refine lv_icmp_ge (tgt := 16) hx hb dX18_isDone_9 (by decide) (fun c_3 => ?_) (fun c_3 => ?_)
    · skip
      rw [if_pos c_3] at hf
      refine lv_iconst (v := 0) hx hb dX18_isDone_16 (by decide) ?_
      obtain ⟨h8, h9⟩ := ret_some hf
      rw [h8, h9]
      exact W.zret (v := 0) hx hb hr rfl (fun t ht hW => ⟨⟨0, (), rfl, rfl, by rw [ht]; exact hP, va_K.moved hW.alike hK, hD⟩, hS.F ht⟩) hS.2.2 dX18_isDone_17
    · skip
      rw [if_neg c_3] at hf
      refine lv_iconst (v := 1) hx hb dX18_isDone_12 (by decide) ?_
      refine lv_goto (tgt := 17) hx hb dX18_isDone_13 (by decide) ?_
      obtain ⟨h8, h9⟩ := ret_some hf
      rw [h8, h9]
      exact W.zret (v := 1) hx hb hr rfl (fun t ht hW => ⟨⟨1, (), rfl, rfl, by rw [ht]; exact hP, va_K.moved hW.alike hK, hD⟩, hS.F ht⟩) hS.2.2 dX18_isDone_17

theorem md_X18_code_1 : (.fieldLink RX18 584 "ResourceLedgerModel" "codes" "[J" : Cond) ∈ wsX18_code := List.mem_of_getElem? (i := 1) rfl
theorem iwd_X18_code_X18 : ∀ w ∈ wsX180, w ∈ wsX18_code := fun _ h => List.mem_cons_of_mem _ (List.mem_append_right _ h)
def fn_X18_code (F : Nat) (sh : Nat → Nat × Nat) (n : Nat) (z : St) (h0 : Nat) (x0 : Int32) : Option (St × Int64) := grd (okO sh n h0 18) (cal (fn_X18_isDone F sh n z h0 x0) (fun z_1 r_2 => if (r_2 : Int32) = 0 then some (z_1, 0) else lnk (z_1.2.2 h0 69) (fun k_6 => grd (okA sh n k_6 102 x0) (some (z_1, (z_1.2.1 k_6 x0.toNatClampNeg))))))
set_option maxHeartbeats 4000000 in
set_option maxRecDepth 100000 in
theorem de_X18_code (l : Launch) (dC : Nat → ClassId) (dI : Nat → Nat → Nat) (cy : Nat → ClassId) (a : Nat → Nat) (sh : Nat → Nat × Nat) (n sz : Nat) (F : Nat) (z : St) (h0 : Nat) (x0 : Int32) {z8 : St} {r8 : Int64} (hf : fn_X18_code F sh n z h0 x0 = some (z8, r8)) : Met l yX18_code wsX18_code ({ frames := 1, cells := 0, slots := 0, locals := 21 }) (va_Pc [.ref (a h0), .int x0] (fun U => U.heap.size = sz ∧ va_P (dC, dI) vwCl (Wd cy a sh n z) U.heap ∧ va_K (dC, dI) vwCl (TYS cy) U ∧ va_D (fun _ => True) (Wd cy a sh n z) ∧ NK U)) (va_Ql (fun (r9 : Int64) (u : Unit) => r9 = r8) (fun u t => va_P (dC, dI) vwCl (Wd cy a sh n z8) t.heap ∧ va_K (dC, dI) vwCl (TYS cy) t ∧ va_D (va_A (Wd cy a sh n z) sz) (Wd cy a sh n z8)) (va_A (Wd cy a sh n z) sz)) 0 0 (va_A (Wd cy a sh n z) sz) := by
  refine Met.ofW (cc := cX18_code) (maxL := 2) (ret := (some .long)) (by decide) rfl ?_
  intro p e s m args below meth c s₁ B hml hv
  obtain ⟨rfl, hsz, hP, hK, hD0, hN⟩ := hv
  have hx := B.exec
  have hb := B.bytes
  have hr := B.returns
  have hts := atoms_spec (ws := wsX18_code) B.pre
  have hown : s.vm.findClass RX18 = some m.cls := findClass_of_methodNamed B.named
  have hlocks := B.notSynchronized
  subst hsz
  have hD := hD0.self (sz := s.heap.size)
  clear hD0
  generalize hAe : va_A (Wd cy a sh n z) s.heap.size = A at hD ⊢
  have hA : ∀ q : Nat, s.heap.size ≤ q → A q := fun q h => by rw [← hAe]; exact Or.inr h
  clear hAe
  have hS : va_S A s.heap s.heap [] := va_S.rf
  have hl := lv_entry ([.ref (a h0), .int x0]) (n := 2) (Nat.le_of_ble_eq_true rfl)
  rw [lg_entry_eq]
  generalize (lg_sl ([.ref (a h0), .int x0]) ++ List.replicate (2 - (lg_sl ([.ref (a h0), .int x0])).length) Slot.unset).toArray = ls at hl ⊢
  replace hl : lv_has ls 2 [(0, .ref (a h0)), (1, .int x0)] := hl
  unfold fn_X18_code at hf
  refine de_start hS hP (fun H locs hS hP => ?_)
  refine lv_aload_n hx hb dX18_code_0 rfl (lv_at hl 0 rfl) ?_
  refine lv_iload_n hx hb dX18_code_1 rfl (lv_at hl 1 rfl) ?_
  obtain ⟨g_3, hf⟩ := grd_some hf
  obtain ⟨kg_3, sg_3⟩ := okO_at g_3
  obtain ⟨z_1, r_2, hfc, hf⟩ := cal_some hf
  have hFc := de_free hD hS hA
  refine va_calli (va_runV (As := [.int x0]) (rest := []) ⟨hx, hb, hml, hown, hts⟩ (de_X18_isDone l dC dI cy a sh n H.size F z h0 x0 hfc) (cwV 1 hts gX18_code_X18_isDone rfl rfl rfl (by decide +kernel) ⟨Nat.le_of_ble_eq_true rfl, Nat.le_of_ble_eq_true rfl⟩) ⟨fun a U g mk q => by obtain ⟨q0, q1, qP, qK, qD, qN⟩ := q; exact ⟨q0, q1, qP, va_K.moved (u := U) (U := U.calling g mk a) (Vm.Alike.refl U.vm) qK, qD, qN.same rfl⟩, va_recv hK hP (ci := 18) (q0 := h0) rfl (Wd_ob kg_3 sg_3 (by decide)), fun U hU hW => ⟨rfl, by rw [hU], by rw [hU]; exact hP, va_K.moved hW.alike hK, hD.weaken (fun _ _ _ _ => trivial), hN.warm hW⟩⟩ rfl rfl hl.1 rfl (lv_room (Nat.le_of_ble_eq_true rfl)) dX18_code_2 ⟨Nat.le_of_ble_eq_true rfl, Nat.le_of_ble_eq_true rfl⟩) hS (fun q _ h => hFc q h) hFc (fun rr u t H_4 locs ht hvm hw hB hz1 hk1 hS2 => ?_)
  rw [hw]
  clear hw
  obtain ⟨hP1, -, hD1⟩ := hB
  rw [ht] at hP1
  replace hD := hD1.weaken (fun _ _ _ h => hFc _ h)
  replace hP := hP1
  replace hS := hS2
  clear hP1 hD1 hS2 hFc hfc hz1 hk1 hvm ht
  refine lv_if_eq (tgt := 17) hx hb dX18_code_5 (by decide) (fun c_5 => ?_) (fun c_5 => ?_)
  · skip
    rw [if_pos c_5] at hf
    refine lv_lconst (v := 0) hx hb dX18_code_17 (by decide) ?_
    obtain ⟨h8, h9⟩ := ret_some hf
    rw [h8, h9]
    exact W.lret (v := 0) hx hb hr (fun t ht hW => ⟨⟨0, (), rfl, rfl, by rw [ht]; exact hP, va_K.moved hW.alike hK, hD⟩, hS.F ht⟩) hS.2.2 dX18_code_18
  · skip
    rw [if_neg c_5] at hf
    refine lv_aload_n hx hb dX18_code_8 rfl (lv_at hl 0 rfl) ?_
    obtain ⟨k_6, ek_6, hf⟩ := lnk_some hf
    refine va_get (D := (dC, dI)) (ci := 18) (v := .ref (a k_6)) (C := RX18) (T := TX18) (N := 78) hx hb hts iwd_X18_code_X18 hown hK hP h0 (Wd_ob kg_3 sg_3 (by decide)) rfl 69 (by decide) (hts _ md_X18_code_1) (fun _ h9 => h9) (fl_q rfl ek_6) dX18_code_9 ?_
    refine lv_iload_n hx hb dX18_code_12 rfl (lv_at hl 1 rfl) ?_
    obtain ⟨g_7, hf⟩ := grd_some hf
    obtain ⟨kg_7, sg_7, ig_7⟩ := okA_at g_7
    refine va_lald hx hb hK hP k_6 2 (Wd_al kg_7 sg_7) rfl ig_7 dX18_code_13 ?_
    refine lv_goto (tgt := 18) hx hb dX18_code_14 (by decide) ?_
    obtain ⟨h8, h9⟩ := ret_some hf
    rw [h8, h9]
    exact W.lret (v := (z_1.2.1 k_6 x0.toNatClampNeg)) hx hb hr (fun t ht hW => ⟨⟨(z_1.2.1 k_6 x0.toNatClampNeg), (), rfl, rfl, by rw [ht]; exact hP, va_K.moved hW.alike hK, hD⟩, hS.F ht⟩) hS.2.2 dX18_code_18

theorem md_X18_told_1 : (.fieldLink RX18 626 "ResourceLedgerModel" "count" "I" : Cond) ∈ wsX18_told := List.mem_of_getElem? (i := 1) rfl
theorem iwd_X18_told_X18 : ∀ w ∈ wsX180, w ∈ wsX18_told := fun _ h => List.mem_cons_of_mem _ (List.mem_append_right _ h)
theorem md_X18_told_5 : (.fieldLink RX18 581 "ResourceLedgerModel" "faultPlaces" "[I" : Cond) ∈ wsX18_told := List.mem_of_getElem? (i := 5) rfl
theorem md_X18_told_4 : (.fieldLink RX18 587 "ResourceLedgerModel" "resultCounts" "[I" : Cond) ∈ wsX18_told := List.mem_of_getElem? (i := 4) rfl
theorem md_X18_told_3 : (.fieldLink RX18 578 "ResourceLedgerModel" "gases" "[I" : Cond) ∈ wsX18_told := List.mem_of_getElem? (i := 3) rfl
theorem md_X18_told_2 : (.fieldLink RX18 575 "ResourceLedgerModel" "outcomes" "[I" : Cond) ∈ wsX18_told := List.mem_of_getElem? (i := 2) rfl
def fn_X18_told (F : Nat) (sh : Nat → Nat × Nat) (n : Nat) (z : St) (h0 : Nat) (x0 : Int32) (x1 : Int32) : Option (St × Int32) := if (x0 : Int32) < 0 then some (z, (-1)) else grd (okO sh n h0 18) (if ((z.1 h0 52) : Int32) ≤ x0 then some (z, (-1)) else if (x1 : Int32) < 0 then some (z, (-1)) else if (x1 : Int32) ≤ 3 then cal (fn_X18_isDone F sh n z h0 x0) (fun z_6 r_7 => if (r_7 : Int32) = 0 then some (z_6, (-2)) else if (x1 : Int32) = 0 then lnk (z_6.2.2 h0 66) (fun k_19 => grd (okA sh n k_19 101 x0) (some (z_6, (z_6.1 k_19 x0.toNatClampNeg)))) else if (x1 : Int32) = 1 then lnk (z_6.2.2 h0 67) (fun k_17 => grd (okA sh n k_17 101 x0) (some (z_6, (z_6.1 k_17 x0.toNatClampNeg)))) else if (x1 : Int32) = 2 then lnk (z_6.2.2 h0 70) (fun k_15 => grd (okA sh n k_15 101 x0) (some (z_6, (z_6.1 k_15 x0.toNatClampNeg)))) else lnk (z_6.2.2 h0 68) (fun k_13 => grd (okA sh n k_13 101 x0) (some (z_6, (z_6.1 k_13 x0.toNatClampNeg))))) else some (z, (-1)))
set_option maxHeartbeats 4000000 in
set_option maxRecDepth 100000 in
theorem de_X18_told (l : Launch) (dC : Nat → ClassId) (dI : Nat → Nat → Nat) (cy : Nat → ClassId) (a : Nat → Nat) (sh : Nat → Nat × Nat) (n sz : Nat) (F : Nat) (z : St) (h0 : Nat) (x0 : Int32) (x1 : Int32) {z8 : St} {r8 : Int32} (hf : fn_X18_told F sh n z h0 x0 x1 = some (z8, r8)) : Met l yX18_told wsX18_told ({ frames := 1, cells := 0, slots := 0, locals := 21 }) (va_Pc [.ref (a h0), .int x0, .int x1] (fun U => U.heap.size = sz ∧ va_P (dC, dI) vwCl (Wd cy a sh n z) U.heap ∧ va_K (dC, dI) vwCl (TYS cy) U ∧ va_D (fun _ => True) (Wd cy a sh n z) ∧ NK U)) (va_Qi (fun (r9 : Int32) (u : Unit) => r9 = r8) (fun u t => va_P (dC, dI) vwCl (Wd cy a sh n z8) t.heap ∧ va_K (dC, dI) vwCl (TYS cy) t ∧ va_D (va_A (Wd cy a sh n z) sz) (Wd cy a sh n z8)) (va_A (Wd cy a sh n z) sz)) 0 0 (va_A (Wd cy a sh n z) sz) := by
  refine Met.ofW (cc := cX18_told) (maxL := 3) (ret := (some .int)) (by decide) rfl ?_
  intro p e s m args below meth c s₁ B hml hv
  obtain ⟨rfl, hsz, hP, hK, hD0, hN⟩ := hv
  have hx := B.exec
  have hb := B.bytes
  have hr := B.returns
  have hts := atoms_spec (ws := wsX18_told) B.pre
  have hown : s.vm.findClass RX18 = some m.cls := findClass_of_methodNamed B.named
  have hlocks := B.notSynchronized
  subst hsz
  have hD := hD0.self (sz := s.heap.size)
  clear hD0
  generalize hAe : va_A (Wd cy a sh n z) s.heap.size = A at hD ⊢
  have hA : ∀ q : Nat, s.heap.size ≤ q → A q := fun q h => by rw [← hAe]; exact Or.inr h
  clear hAe
  have hS : va_S A s.heap s.heap [] := va_S.rf
  have hl := lv_entry ([.ref (a h0), .int x0, .int x1]) (n := 3) (Nat.le_of_ble_eq_true rfl)
  rw [lg_entry_eq]
  generalize (lg_sl ([.ref (a h0), .int x0, .int x1]) ++ List.replicate (3 - (lg_sl ([.ref (a h0), .int x0, .int x1])).length) Slot.unset).toArray = ls at hl ⊢
  replace hl : lv_has ls 3 [(0, .ref (a h0)), (1, .int x0), (2, .int x1)] := hl
  unfold fn_X18_told at hf
  refine de_start hS hP (fun H locs hS hP => ?_)
  refine lv_iload_n hx hb dX18_told_0 rfl (lv_at hl 1 rfl) ?_
  refine lv_if_lt (tgt := 21) hx hb dX18_told_1 (by decide) (fun c_1 => ?_) (fun c_1 => ?_)
  · skip
    rw [if_pos c_1] at hf
    refine lv_iconst (v := (-1)) hx hb dX18_told_21 (by decide) ?_
    obtain ⟨h8, h9⟩ := ret_some hf
    rw [h8, h9]
    exact W.iret (v := (-1)) hx hb hr (fun t ht hW => ⟨⟨(-1), (), rfl, rfl, by rw [ht]; exact hP, va_K.moved hW.alike hK, hD⟩, hS.F ht⟩) hS.2.2 dX18_told_22
  · skip
    rw [if_neg c_1] at hf
    refine lv_iload_n hx hb dX18_told_4 rfl (lv_at hl 1 rfl) ?_
    refine lv_aload_n hx hb dX18_told_5 rfl (lv_at hl 0 rfl) ?_
    obtain ⟨g_2, hf⟩ := grd_some hf
    obtain ⟨kg_2, sg_2⟩ := okO_at g_2
    refine va_get (D := (dC, dI)) (ci := 18) (v := .int (z.1 h0 52)) (C := RX18) (T := TX18) (N := 78) hx hb hts iwd_X18_told_X18 hown hK hP h0 (Wd_ob kg_2 sg_2 (by decide)) rfl 52 (by decide) (hts _ md_X18_told_1) (fun _ h9 => h9) (fl_at (t := 0) rfl) dX18_told_6 ?_
    refine lv_icmp_ge (tgt := 21) hx hb dX18_told_9 (by decide) (fun c_3 => ?_) (fun c_3 => ?_)
    · skip
      rw [if_pos c_3] at hf
      refine lv_iconst (v := (-1)) hx hb dX18_told_21 (by decide) ?_
      obtain ⟨h8, h9⟩ := ret_some hf
      rw [h8, h9]
      exact W.iret (v := (-1)) hx hb hr (fun t ht hW => ⟨⟨(-1), (), rfl, rfl, by rw [ht]; exact hP, va_K.moved hW.alike hK, hD⟩, hS.F ht⟩) hS.2.2 dX18_told_22
    · skip
      rw [if_neg c_3] at hf
      refine lv_iload_n hx hb dX18_told_12 rfl (lv_at hl 2 rfl) ?_
      refine lv_if_lt (tgt := 21) hx hb dX18_told_13 (by decide) (fun c_4 => ?_) (fun c_4 => ?_)
      · skip
        rw [if_pos c_4] at hf
        refine lv_iconst (v := (-1)) hx hb dX18_told_21 (by decide) ?_
        obtain ⟨h8, h9⟩ := ret_some hf
        rw [h8, h9]
        exact W.iret (v := (-1)) hx hb hr (fun t ht hW => ⟨⟨(-1), (), rfl, rfl, by rw [ht]; exact hP, va_K.moved hW.alike hK, hD⟩, hS.F ht⟩) hS.2.2 dX18_told_22
      · skip
        rw [if_neg c_4] at hf
        refine lv_iload_n hx hb dX18_told_16 rfl (lv_at hl 2 rfl) ?_
        refine lv_iconst (v := 3) hx hb dX18_told_17 (by decide) ?_
        refine lv_icmp_le (tgt := 23) hx hb dX18_told_18 (by decide) (fun c_5 => ?_) (fun c_5 => ?_)
        · skip
          rw [if_pos c_5] at hf
          refine lv_aload_n hx hb dX18_told_23 rfl (lv_at hl 0 rfl) ?_
          refine lv_iload_n hx hb dX18_told_24 rfl (lv_at hl 1 rfl) ?_
          obtain ⟨z_6, r_7, hfc, hf⟩ := cal_some hf
          have hFc := de_free hD hS hA
          refine va_calli (va_runV (As := [.int x0]) (rest := []) ⟨hx, hb, hml, hown, hts⟩ (de_X18_isDone l dC dI cy a sh n H.size F z h0 x0 hfc) (cwV 1 hts gX18_told_X18_isDone rfl rfl rfl (by decide +kernel) ⟨Nat.le_of_ble_eq_true rfl, Nat.le_of_ble_eq_true rfl⟩) ⟨fun a U g mk q => by obtain ⟨q0, q1, qP, qK, qD, qN⟩ := q; exact ⟨q0, q1, qP, va_K.moved (u := U) (U := U.calling g mk a) (Vm.Alike.refl U.vm) qK, qD, qN.same rfl⟩, va_recv hK hP (ci := 18) (q0 := h0) rfl (Wd_ob kg_2 sg_2 (by decide)), fun U hU hW => ⟨rfl, by rw [hU], by rw [hU]; exact hP, va_K.moved hW.alike hK, hD.weaken (fun _ _ _ _ => trivial), hN.warm hW⟩⟩ rfl rfl hl.1 rfl (lv_room (Nat.le_of_ble_eq_true rfl)) dX18_told_25 ⟨Nat.le_of_ble_eq_true rfl, Nat.le_of_ble_eq_true rfl⟩) hS (fun q _ h => hFc q h) hFc (fun rr u t H_8 locs ht hvm hw hB hz1 hk1 hS2 => ?_)
          rw [hw]
          clear hw
          obtain ⟨hP1, -, hD1⟩ := hB
          rw [ht] at hP1
          replace hD := hD1.weaken (fun _ _ _ h => hFc _ h)
          replace hP := hP1
          replace hS := hS2
          clear hP1 hD1 hS2 hFc hfc hz1 hk1 hvm ht
          refine lv_if_ne (tgt := 34) hx hb dX18_told_28 (by decide) (fun c_9 => ?_) (fun c_9 => ?_)
          · skip
            rw [if_neg c_9] at hf
            refine lv_iload_n hx hb dX18_told_34 rfl (lv_at hl 2 rfl) ?_
            refine lv_if_ne (tgt := 47) hx hb dX18_told_35 (by decide) (fun c_10 => ?_) (fun c_10 => ?_)
            · skip
              rw [if_neg c_10] at hf
              refine lv_iload_n hx hb dX18_told_47 rfl (lv_at hl 2 rfl) ?_
              refine lv_iconst (v := 1) hx hb dX18_told_48 (by decide) ?_
              refine lv_icmp_ne (tgt := 61) hx hb dX18_told_49 (by decide) (fun c_11 => ?_) (fun c_11 => ?_)
              · skip
                rw [if_neg c_11] at hf
                refine lv_iload_n hx hb dX18_told_61 rfl (lv_at hl 2 rfl) ?_
                refine lv_iconst (v := 2) hx hb dX18_told_62 (by decide) ?_
                refine lv_icmp_ne (tgt := 75) hx hb dX18_told_63 (by decide) (fun c_12 => ?_) (fun c_12 => ?_)
                · skip
                  rw [if_neg c_12] at hf
                  refine lv_aload_n hx hb dX18_told_75 rfl (lv_at hl 0 rfl) ?_
                  obtain ⟨k_13, ek_13, hf⟩ := lnk_some hf
                  refine va_get (D := (dC, dI)) (ci := 18) (v := .ref (a k_13)) (C := RX18) (T := TX18) (N := 78) hx hb hts iwd_X18_told_X18 hown hK hP h0 (Wd_ob kg_2 sg_2 (by decide)) rfl 68 (by decide) (hts _ md_X18_told_5) (fun _ h9 => h9) (fl_q rfl ek_13) dX18_told_76 ?_
                  refine lv_iload_n hx hb dX18_told_79 rfl (lv_at hl 1 rfl) ?_
                  obtain ⟨g_14, hf⟩ := grd_some hf
                  obtain ⟨kg_14, sg_14, ig_14⟩ := okA_at g_14
                  refine va_iald hx hb hK hP k_13 1 (Wd_ai kg_14 sg_14) rfl ig_14 dX18_told_80 ?_
                  obtain ⟨h8, h9⟩ := ret_some hf
                  rw [h8, h9]
                  exact W.iret (v := (z_6.1 k_13 x0.toNatClampNeg)) hx hb hr (fun t ht hW => ⟨⟨(z_6.1 k_13 x0.toNatClampNeg), (), rfl, rfl, by rw [ht]; exact hP, va_K.moved hW.alike hK, hD⟩, hS.F ht⟩) hS.2.2 dX18_told_81
                · skip
                  rw [if_pos c_12] at hf
                  refine lv_aload_n hx hb dX18_told_66 rfl (lv_at hl 0 rfl) ?_
                  obtain ⟨k_15, ek_15, hf⟩ := lnk_some hf
                  refine va_get (D := (dC, dI)) (ci := 18) (v := .ref (a k_15)) (C := RX18) (T := TX18) (N := 78) hx hb hts iwd_X18_told_X18 hown hK hP h0 (Wd_ob kg_2 sg_2 (by decide)) rfl 70 (by decide) (hts _ md_X18_told_4) (fun _ h9 => h9) (fl_q rfl ek_15) dX18_told_67 ?_
                  refine lv_iload_n hx hb dX18_told_70 rfl (lv_at hl 1 rfl) ?_
                  obtain ⟨g_16, hf⟩ := grd_some hf
                  obtain ⟨kg_16, sg_16, ig_16⟩ := okA_at g_16
                  refine va_iald hx hb hK hP k_15 1 (Wd_ai kg_16 sg_16) rfl ig_16 dX18_told_71 ?_
                  refine lv_goto (tgt := 81) hx hb dX18_told_72 (by decide) ?_
                  obtain ⟨h8, h9⟩ := ret_some hf
                  rw [h8, h9]
                  exact W.iret (v := (z_6.1 k_15 x0.toNatClampNeg)) hx hb hr (fun t ht hW => ⟨⟨(z_6.1 k_15 x0.toNatClampNeg), (), rfl, rfl, by rw [ht]; exact hP, va_K.moved hW.alike hK, hD⟩, hS.F ht⟩) hS.2.2 dX18_told_81
              · skip
                rw [if_pos c_11] at hf
                refine lv_aload_n hx hb dX18_told_52 rfl (lv_at hl 0 rfl) ?_
                obtain ⟨k_17, ek_17, hf⟩ := lnk_some hf
                refine va_get (D := (dC, dI)) (ci := 18) (v := .ref (a k_17)) (C := RX18) (T := TX18) (N := 78) hx hb hts iwd_X18_told_X18 hown hK hP h0 (Wd_ob kg_2 sg_2 (by decide)) rfl 67 (by decide) (hts _ md_X18_told_3) (fun _ h9 => h9) (fl_q rfl ek_17) dX18_told_53 ?_
                refine lv_iload_n hx hb dX18_told_56 rfl (lv_at hl 1 rfl) ?_
                obtain ⟨g_18, hf⟩ := grd_some hf
                obtain ⟨kg_18, sg_18, ig_18⟩ := okA_at g_18
                refine va_iald hx hb hK hP k_17 1 (Wd_ai kg_18 sg_18) rfl ig_18 dX18_told_57 ?_
                refine lv_goto (tgt := 81) hx hb dX18_told_58 (by decide) ?_
                obtain ⟨h8, h9⟩ := ret_some hf
                rw [h8, h9]
                exact W.iret (v := (z_6.1 k_17 x0.toNatClampNeg)) hx hb hr (fun t ht hW => ⟨⟨(z_6.1 k_17 x0.toNatClampNeg), (), rfl, rfl, by rw [ht]; exact hP, va_K.moved hW.alike hK, hD⟩, hS.F ht⟩) hS.2.2 dX18_told_81
            · skip
              rw [if_pos c_10] at hf
              refine lv_aload_n hx hb dX18_told_38 rfl (lv_at hl 0 rfl) ?_
              obtain ⟨k_19, ek_19, hf⟩ := lnk_some hf
              refine va_get (D := (dC, dI)) (ci := 18) (v := .ref (a k_19)) (C := RX18) (T := TX18) (N := 78) hx hb hts iwd_X18_told_X18 hown hK hP h0 (Wd_ob kg_2 sg_2 (by decide)) rfl 66 (by decide) (hts _ md_X18_told_2) (fun _ h9 => h9) (fl_q rfl ek_19) dX18_told_39 ?_
              refine lv_iload_n hx hb dX18_told_42 rfl (lv_at hl 1 rfl) ?_
              obtain ⟨g_20, hf⟩ := grd_some hf
              obtain ⟨kg_20, sg_20, ig_20⟩ := okA_at g_20
              refine va_iald hx hb hK hP k_19 1 (Wd_ai kg_20 sg_20) rfl ig_20 dX18_told_43 ?_
              refine lv_goto (tgt := 81) hx hb dX18_told_44 (by decide) ?_
              obtain ⟨h8, h9⟩ := ret_some hf
              rw [h8, h9]
              exact W.iret (v := (z_6.1 k_19 x0.toNatClampNeg)) hx hb hr (fun t ht hW => ⟨⟨(z_6.1 k_19 x0.toNatClampNeg), (), rfl, rfl, by rw [ht]; exact hP, va_K.moved hW.alike hK, hD⟩, hS.F ht⟩) hS.2.2 dX18_told_81
          · skip
            rw [if_pos c_9] at hf
            refine lv_bipush (v := (-2)) hx hb dX18_told_31 (by decide) ?_
            obtain ⟨h8, h9⟩ := ret_some hf
            rw [h8, h9]
            exact W.iret (v := (-2)) hx hb hr (fun t ht hW => ⟨⟨(-2), (), rfl, rfl, by rw [ht]; exact hP, va_K.moved hW.alike hK, hD⟩, hS.F ht⟩) hS.2.2 dX18_told_33
        · skip
          rw [if_neg c_5] at hf
          refine lv_iconst (v := (-1)) hx hb dX18_told_21 (by decide) ?_
          obtain ⟨h8, h9⟩ := ret_some hf
          rw [h8, h9]
          exact W.iret (v := (-1)) hx hb hr (fun t ht hW => ⟨⟨(-1), (), rfl, rfl, by rw [ht]; exact hP, va_K.moved hW.alike hK, hD⟩, hS.F ht⟩) hS.2.2 dX18_told_22

theorem md_X18_result_1 : (.fieldLink RX18 587 "ResourceLedgerModel" "resultCounts" "[I" : Cond) ∈ wsX18_result := List.mem_of_getElem? (i := 1) rfl
theorem iwd_X18_result_X18 : ∀ w ∈ wsX180, w ∈ wsX18_result := fun _ h => List.mem_cons_of_mem _ (List.mem_append_right _ h)
theorem md_X18_result_4 : (.fieldLink RX18 590 "ResourceLedgerModel" "resultTypes" "[B" : Cond) ∈ wsX18_result := List.mem_of_getElem? (i := 4) rfl
theorem md_X18_result_3 : (.fieldLink RX18 593 "ResourceLedgerModel" "resultHighs" "[J" : Cond) ∈ wsX18_result := List.mem_of_getElem? (i := 3) rfl
theorem md_X18_result_2 : (.fieldLink RX18 596 "ResourceLedgerModel" "resultLows" "[J" : Cond) ∈ wsX18_result := List.mem_of_getElem? (i := 2) rfl
def fn_X18_result (F : Nat) (sh : Nat → Nat × Nat) (n : Nat) (z : St) (h0 : Nat) (x0 : Int32) (x1 : Int32) (x2 : Int32) : Option (St × Int64) := grd (okO sh n h0 18) (cal (fn_X18_isDone F sh n z h0 x0) (fun z_1 r_2 => if (r_2 : Int32) = 0 then some (z_1, 0) else if (x1 : Int32) < 0 then some (z_1, 0) else lnk (z_1.2.2 h0 70) (fun k_7 => grd (okA sh n k_7 101 x0) (if ((z_1.1 k_7 x0.toNatClampNeg) : Int32) ≤ x1 then some (z_1, 0) else if (x2 : Int32) < 0 then some (z_1, 0) else if (x2 : Int32) ≤ 2 then lt_ ((8 * x0) + x1) (fun v_12 => if (x2 : Int32) = 0 then lnk (z_1.2.2 h0 73) (fun k_19 => grd (okA sh n k_19 102 v_12) (some (z_1, (z_1.2.1 k_19 v_12.toNatClampNeg)))) else if (x2 : Int32) = 1 then lnk (z_1.2.2 h0 72) (fun k_17 => grd (okA sh n k_17 102 v_12) (some (z_1, (z_1.2.1 k_17 v_12.toNatClampNeg)))) else lnk (z_1.2.2 h0 71) (fun k_15 => grd (okA sh n k_15 100 v_12) (some (z_1, (((z_1.1 k_15 v_12.toNatClampNeg) : Int32).toInt64))))) else some (z_1, 0)))))
set_option maxHeartbeats 4000000 in
set_option maxRecDepth 100000 in
theorem de_X18_result (l : Launch) (dC : Nat → ClassId) (dI : Nat → Nat → Nat) (cy : Nat → ClassId) (a : Nat → Nat) (sh : Nat → Nat × Nat) (n sz : Nat) (F : Nat) (z : St) (h0 : Nat) (x0 : Int32) (x1 : Int32) (x2 : Int32) {z8 : St} {r8 : Int64} (hf : fn_X18_result F sh n z h0 x0 x1 x2 = some (z8, r8)) : Met l yX18_result wsX18_result ({ frames := 1, cells := 0, slots := 0, locals := 21 }) (va_Pc [.ref (a h0), .int x0, .int x1, .int x2] (fun U => U.heap.size = sz ∧ va_P (dC, dI) vwCl (Wd cy a sh n z) U.heap ∧ va_K (dC, dI) vwCl (TYS cy) U ∧ va_D (fun _ => True) (Wd cy a sh n z) ∧ NK U)) (va_Ql (fun (r9 : Int64) (u : Unit) => r9 = r8) (fun u t => va_P (dC, dI) vwCl (Wd cy a sh n z8) t.heap ∧ va_K (dC, dI) vwCl (TYS cy) t ∧ va_D (va_A (Wd cy a sh n z) sz) (Wd cy a sh n z8)) (va_A (Wd cy a sh n z) sz)) 0 0 (va_A (Wd cy a sh n z) sz) := by
  refine Met.ofW (cc := cX18_result) (maxL := 5) (ret := (some .long)) (by decide) rfl ?_
  intro p e s m args below meth c s₁ B hml hv
  obtain ⟨rfl, hsz, hP, hK, hD0, hN⟩ := hv
  have hx := B.exec
  have hb := B.bytes
  have hr := B.returns
  have hts := atoms_spec (ws := wsX18_result) B.pre
  have hown : s.vm.findClass RX18 = some m.cls := findClass_of_methodNamed B.named
  have hlocks := B.notSynchronized
  subst hsz
  have hD := hD0.self (sz := s.heap.size)
  clear hD0
  generalize hAe : va_A (Wd cy a sh n z) s.heap.size = A at hD ⊢
  have hA : ∀ q : Nat, s.heap.size ≤ q → A q := fun q h => by rw [← hAe]; exact Or.inr h
  clear hAe
  have hS : va_S A s.heap s.heap [] := va_S.rf
  have hl := lv_entry ([.ref (a h0), .int x0, .int x1, .int x2]) (n := 5) (Nat.le_of_ble_eq_true rfl)
  rw [lg_entry_eq]
  generalize (lg_sl ([.ref (a h0), .int x0, .int x1, .int x2]) ++ List.replicate (5 - (lg_sl ([.ref (a h0), .int x0, .int x1, .int x2])).length) Slot.unset).toArray = ls at hl ⊢
  replace hl : lv_has ls 5 [(0, .ref (a h0)), (1, .int x0), (2, .int x1), (3, .int x2)] := hl
  unfold fn_X18_result at hf
  refine de_start hS hP (fun H locs hS hP => ?_)
  refine lv_aload_n hx hb dX18_result_0 rfl (lv_at hl 0 rfl) ?_
  refine lv_iload_n hx hb dX18_result_1 rfl (lv_at hl 1 rfl) ?_
  obtain ⟨g_3, hf⟩ := grd_some hf
  obtain ⟨kg_3, sg_3⟩ := okO_at g_3
  obtain ⟨z_1, r_2, hfc, hf⟩ := cal_some hf
  have hFc := de_free hD hS hA
  refine va_calli (va_runV (As := [.int x0]) (rest := []) ⟨hx, hb, hml, hown, hts⟩ (de_X18_isDone l dC dI cy a sh n H.size F z h0 x0 hfc) (cwV 1 hts gX18_result_X18_isDone rfl rfl rfl (by decide +kernel) ⟨Nat.le_of_ble_eq_true rfl, Nat.le_of_ble_eq_true rfl⟩) ⟨fun a U g mk q => by obtain ⟨q0, q1, qP, qK, qD, qN⟩ := q; exact ⟨q0, q1, qP, va_K.moved (u := U) (U := U.calling g mk a) (Vm.Alike.refl U.vm) qK, qD, qN.same rfl⟩, va_recv hK hP (ci := 18) (q0 := h0) rfl (Wd_ob kg_3 sg_3 (by decide)), fun U hU hW => ⟨rfl, by rw [hU], by rw [hU]; exact hP, va_K.moved hW.alike hK, hD.weaken (fun _ _ _ _ => trivial), hN.warm hW⟩⟩ rfl rfl hl.1 rfl (lv_room (Nat.le_of_ble_eq_true rfl)) dX18_result_2 ⟨Nat.le_of_ble_eq_true rfl, Nat.le_of_ble_eq_true rfl⟩) hS (fun q _ h => hFc q h) hFc (fun rr u t H_4 locs ht hvm hw hB hz1 hk1 hS2 => ?_)
  rw [hw]
  clear hw
  obtain ⟨hP1, -, hD1⟩ := hB
  rw [ht] at hP1
  replace hD := hD1.weaken (fun _ _ _ h => hFc _ h)
  replace hP := hP1
  replace hS := hS2
  clear hP1 hD1 hS2 hFc hfc hz1 hk1 hvm ht
  refine lv_if_eq (tgt := 31) hx hb dX18_result_5 (by decide) (fun c_5 => ?_) (fun c_5 => ?_)
  · skip
    rw [if_pos c_5] at hf
    refine lv_lconst (v := 0) hx hb dX18_result_31 (by decide) ?_
    obtain ⟨h8, h9⟩ := ret_some hf
    rw [h8, h9]
    exact W.lret (v := 0) hx hb hr (fun t ht hW => ⟨⟨0, (), rfl, rfl, by rw [ht]; exact hP, va_K.moved hW.alike hK, hD⟩, hS.F ht⟩) hS.2.2 dX18_result_32
  · skip
    rw [if_neg c_5] at hf
    refine lv_iload_n hx hb dX18_result_8 rfl (lv_at hl 2 rfl) ?_
    refine lv_if_lt (tgt := 31) hx hb dX18_result_9 (by decide) (fun c_6 => ?_) (fun c_6 => ?_)
    · skip
      rw [if_pos c_6] at hf
      refine lv_lconst (v := 0) hx hb dX18_result_31 (by decide) ?_
      obtain ⟨h8, h9⟩ := ret_some hf
      rw [h8, h9]
      exact W.lret (v := 0) hx hb hr (fun t ht hW => ⟨⟨0, (), rfl, rfl, by rw [ht]; exact hP, va_K.moved hW.alike hK, hD⟩, hS.F ht⟩) hS.2.2 dX18_result_32
    · skip
      rw [if_neg c_6] at hf
      refine lv_iload_n hx hb dX18_result_12 rfl (lv_at hl 2 rfl) ?_
      refine lv_aload_n hx hb dX18_result_13 rfl (lv_at hl 0 rfl) ?_
      obtain ⟨k_7, ek_7, hf⟩ := lnk_some hf
      refine va_get (D := (dC, dI)) (ci := 18) (v := .ref (a k_7)) (C := RX18) (T := TX18) (N := 78) hx hb hts iwd_X18_result_X18 hown hK hP h0 (Wd_ob kg_3 sg_3 (by decide)) rfl 70 (by decide) (hts _ md_X18_result_1) (fun _ h9 => h9) (fl_q rfl ek_7) dX18_result_14 ?_
      refine lv_iload_n hx hb dX18_result_17 rfl (lv_at hl 1 rfl) ?_
      obtain ⟨g_8, hf⟩ := grd_some hf
      obtain ⟨kg_8, sg_8, ig_8⟩ := okA_at g_8
      refine va_iald hx hb hK hP k_7 1 (Wd_ai kg_8 sg_8) rfl ig_8 dX18_result_18 ?_
      refine lv_icmp_ge (tgt := 31) hx hb dX18_result_19 (by decide) (fun c_9 => ?_) (fun c_9 => ?_)
      · skip
        rw [if_pos c_9] at hf
        refine lv_lconst (v := 0) hx hb dX18_result_31 (by decide) ?_
        obtain ⟨h8, h9⟩ := ret_some hf
        rw [h8, h9]
        exact W.lret (v := 0) hx hb hr (fun t ht hW => ⟨⟨0, (), rfl, rfl, by rw [ht]; exact hP, va_K.moved hW.alike hK, hD⟩, hS.F ht⟩) hS.2.2 dX18_result_32
      · skip
        rw [if_neg c_9] at hf
        refine lv_iload_n hx hb dX18_result_22 rfl (lv_at hl 3 rfl) ?_
        refine lv_if_lt (tgt := 31) hx hb dX18_result_23 (by decide) (fun c_10 => ?_) (fun c_10 => ?_)
        · skip
          rw [if_pos c_10] at hf
          refine lv_lconst (v := 0) hx hb dX18_result_31 (by decide) ?_
          obtain ⟨h8, h9⟩ := ret_some hf
          rw [h8, h9]
          exact W.lret (v := 0) hx hb hr (fun t ht hW => ⟨⟨0, (), rfl, rfl, by rw [ht]; exact hP, va_K.moved hW.alike hK, hD⟩, hS.F ht⟩) hS.2.2 dX18_result_32
        · skip
          rw [if_neg c_10] at hf
          refine lv_iload_n hx hb dX18_result_26 rfl (lv_at hl 3 rfl) ?_
          refine lv_iconst (v := 2) hx hb dX18_result_27 (by decide) ?_
          refine lv_icmp_le (tgt := 33) hx hb dX18_result_28 (by decide) (fun c_11 => ?_) (fun c_11 => ?_)
          · skip
            rw [if_pos c_11] at hf
            refine lv_bipush (v := 8) hx hb dX18_result_33 (by decide) ?_
            refine lv_iload_n hx hb dX18_result_35 rfl (lv_at hl 1 rfl) ?_
            refine lv_imul hx hb dX18_result_36 ?_
            refine lv_iload_n hx hb dX18_result_37 rfl (lv_at hl 2 rfl) ?_
            refine lv_iadd hx hb dX18_result_38 ?_
            refine lv_topi (fun v_12 ev_12 => ?_)
            replace hf := lt_at ev_12 hf
            clear ev_12
            refine lv_istore (lv' := [(4, .int v_12), (0, .ref (a h0)), (1, .int x0), (2, .int x1), (3, .int x2)]) hx hb dX18_result_39 hl (by decide) rfl (fun ls hl2 => ?_)
            replace hl := hl2
            clear hl2
            refine lv_iload_n hx hb dX18_result_41 rfl (lv_at hl 4 rfl) ?_
            refine lv_if_ne (tgt := 55) hx hb dX18_result_42 (by decide) (fun c_13 => ?_) (fun c_13 => ?_)
            · skip
              rw [if_neg c_13] at hf
              refine lv_iload_n hx hb dX18_result_55 rfl (lv_at hl 4 rfl) ?_
              refine lv_iconst (v := 1) hx hb dX18_result_56 (by decide) ?_
              refine lv_icmp_ne (tgt := 70) hx hb dX18_result_57 (by decide) (fun c_14 => ?_) (fun c_14 => ?_)
              · skip
                rw [if_neg c_14] at hf
                refine lv_aload_n hx hb dX18_result_70 rfl (lv_at hl 1 rfl) ?_
                obtain ⟨k_15, ek_15, hf⟩ := lnk_some hf
                refine va_get (D := (dC, dI)) (ci := 18) (v := .ref (a k_15)) (C := RX18) (T := TX18) (N := 78) hx hb hts iwd_X18_result_X18 hown hK hP h0 (Wd_ob kg_3 sg_3 (by decide)) rfl 71 (by decide) (hts _ md_X18_result_4) (fun _ h9 => h9) (fl_q rfl ek_15) dX18_result_71 ?_
                refine lv_iload hx hb dX18_result_74 (lv_at hl 0 rfl) ?_
                obtain ⟨g_16, hf⟩ := grd_some hf
                obtain ⟨kg_16, sg_16, ig_16⟩ := okA_at g_16
                refine va_bald hx hb hK hP k_15 0 (Wd_ab kg_16 sg_16) rfl ig_16 dX18_result_76 ?_
                refine lv_i2l (v := ((z_1.1 k_15 v_12.toNatClampNeg) : Int32).toInt64) hx hb dX18_result_77 rfl ?_
                obtain ⟨h8, h9⟩ := ret_some hf
                rw [h8, h9]
                exact W.lret (v := (((z_1.1 k_15 v_12.toNatClampNeg) : Int32).toInt64)) hx hb hr (fun t ht hW => ⟨⟨(((z_1.1 k_15 v_12.toNatClampNeg) : Int32).toInt64), (), rfl, rfl, by rw [ht]; exact hP, va_K.moved hW.alike hK, hD⟩, hS.F ht⟩) hS.2.2 dX18_result_78
              · skip
                rw [if_pos c_14] at hf
                refine lv_aload_n hx hb dX18_result_60 rfl (lv_at hl 1 rfl) ?_
                obtain ⟨k_17, ek_17, hf⟩ := lnk_some hf
                refine va_get (D := (dC, dI)) (ci := 18) (v := .ref (a k_17)) (C := RX18) (T := TX18) (N := 78) hx hb hts iwd_X18_result_X18 hown hK hP h0 (Wd_ob kg_3 sg_3 (by decide)) rfl 72 (by decide) (hts _ md_X18_result_3) (fun _ h9 => h9) (fl_q rfl ek_17) dX18_result_61 ?_
                refine lv_iload hx hb dX18_result_64 (lv_at hl 0 rfl) ?_
                obtain ⟨g_18, hf⟩ := grd_some hf
                obtain ⟨kg_18, sg_18, ig_18⟩ := okA_at g_18
                refine va_lald hx hb hK hP k_17 2 (Wd_al kg_18 sg_18) rfl ig_18 dX18_result_66 ?_
                refine lv_goto (tgt := 78) hx hb dX18_result_67 (by decide) ?_
                obtain ⟨h8, h9⟩ := ret_some hf
                rw [h8, h9]
                exact W.lret (v := (z_1.2.1 k_17 v_12.toNatClampNeg)) hx hb hr (fun t ht hW => ⟨⟨(z_1.2.1 k_17 v_12.toNatClampNeg), (), rfl, rfl, by rw [ht]; exact hP, va_K.moved hW.alike hK, hD⟩, hS.F ht⟩) hS.2.2 dX18_result_78
            · skip
              rw [if_pos c_13] at hf
              refine lv_aload_n hx hb dX18_result_45 rfl (lv_at hl 1 rfl) ?_
              obtain ⟨k_19, ek_19, hf⟩ := lnk_some hf
              refine va_get (D := (dC, dI)) (ci := 18) (v := .ref (a k_19)) (C := RX18) (T := TX18) (N := 78) hx hb hts iwd_X18_result_X18 hown hK hP h0 (Wd_ob kg_3 sg_3 (by decide)) rfl 73 (by decide) (hts _ md_X18_result_2) (fun _ h9 => h9) (fl_q rfl ek_19) dX18_result_46 ?_
              refine lv_iload hx hb dX18_result_49 (lv_at hl 0 rfl) ?_
              obtain ⟨g_20, hf⟩ := grd_some hf
              obtain ⟨kg_20, sg_20, ig_20⟩ := okA_at g_20
              refine va_lald hx hb hK hP k_19 2 (Wd_al kg_20 sg_20) rfl ig_20 dX18_result_51 ?_
              refine lv_goto (tgt := 78) hx hb dX18_result_52 (by decide) ?_
              obtain ⟨h8, h9⟩ := ret_some hf
              rw [h8, h9]
              exact W.lret (v := (z_1.2.1 k_19 v_12.toNatClampNeg)) hx hb hr (fun t ht hW => ⟨⟨(z_1.2.1 k_19 v_12.toNatClampNeg), (), rfl, rfl, by rw [ht]; exact hP, va_K.moved hW.alike hK, hD⟩, hS.F ht⟩) hS.2.2 dX18_result_78
          · skip
            rw [if_neg c_11] at hf
            refine lv_lconst (v := 0) hx hb dX18_result_31 (by decide) ?_
            obtain ⟨h8, h9⟩ := ret_some hf
            rw [h8, h9]
            exact W.lret (v := 0) hx hb hr (fun t ht hW => ⟨⟨0, (), rfl, rfl, by rw [ht]; exact hP, va_K.moved hW.alike hK, hD⟩, hS.F ht⟩) hS.2.2 dX18_result_32

theorem md_X18_argument_2 : (.fieldLink RX18 626 "ResourceLedgerModel" "count" "I" : Cond) ∈ wsX18_argument := List.mem_of_getElem? (i := 2) rfl
theorem iwd_X18_argument_X18 : ∀ w ∈ wsX180, w ∈ wsX18_argument := fun _ h => List.mem_cons_of_mem _ (List.mem_append_right _ h)
theorem md_X18_argument_3 : (.fieldLink RX18 628 "ResourceLedgerModel" "done" "I" : Cond) ∈ wsX18_argument := List.mem_of_getElem? (i := 3) rfl
theorem md_X18_argument_4 : (.fieldLink RX18 538 "ResourceLedgerModel" "sorts" "[I" : Cond) ∈ wsX18_argument := List.mem_of_getElem? (i := 4) rfl
theorem md_X18_argument_5 : (.fieldLink RX18 556 "ResourceLedgerModel" "argumentCounts" "[I" : Cond) ∈ wsX18_argument := List.mem_of_getElem? (i := 5) rfl
theorem md_X18_argument_6 : (.fieldLink RX18 559 "ResourceLedgerModel" "argumentTypes" "[B" : Cond) ∈ wsX18_argument := List.mem_of_getElem? (i := 6) rfl
theorem md_X18_argument_7 : (.fieldLink RX18 562 "ResourceLedgerModel" "argumentHighs" "[J" : Cond) ∈ wsX18_argument := List.mem_of_getElem? (i := 7) rfl
theorem md_X18_argument_8 : (.fieldLink RX18 565 "ResourceLedgerModel" "argumentLows" "[J" : Cond) ∈ wsX18_argument := List.mem_of_getElem? (i := 8) rfl
theorem md_X18_argument_1 : (.constantLong RX18 638 (256) : Cond) ∈ wsX18_argument := List.mem_of_getElem? (i := 1) rfl
def fn_X18_argument_B91 (F : Nat) (sh : Nat → Nat × Nat) (n : Nat) (h0 : Nat) (x0 : Int32) (x1 : Int64) (x2 : Int64) (z_4 : St) : Option (St × Int32) := grd (okO sh n h0 18) (lt_ ((z_4.1 h0 52) - 1) (fun v_6 => if (v_6 : Int32) < (z_4.1 h0 53) then some (z_4, (-2)) else lnk (z_4.2.2 h0 54) (fun k_8 => grd (okA sh n k_8 101 v_6) (if ((z_4.1 k_8 v_6.toNatClampNeg) : Int32) = 2 then lnk (z_4.2.2 h0 60) (fun k_11 => grd (okA sh n k_11 101 v_6) (if ((z_4.1 k_11 v_6.toNatClampNeg) : Int32) = 8 then some (z_4, (-3)) else lnk (z_4.2.2 h0 60) (fun k_14 => grd (okA sh n k_14 101 v_6) (lt_ ((8 * v_6) + (z_4.1 k_14 v_6.toNatClampNeg)) (fun v_16 => lnk (z_4.2.2 h0 61) (fun k_17 => grd (okA sh n k_17 100 v_16) (lt_ (si z_4 k_17 v_16.toNatClampNeg (vp_nar .byte ((x0 : Int32).toInt8.toInt32))) (fun z_20 => lnk (z_20.2.2 h0 62) (fun k_21 => grd (okA sh n k_21 102 v_16) (lt_ (sl z_20 k_21 v_16.toNatClampNeg x1) (fun z_24 => lnk (z_24.2.2 h0 63) (fun k_25 => grd (okA sh n k_25 102 v_16) (lt_ (sl z_24 k_25 v_16.toNatClampNeg x2) (fun z_28 => lnk (z_28.2.2 h0 60) (fun k_29 => grd (okA sh n k_29 101 v_6) (grd (okA sh n k_29 101 v_6) (lt_ (si z_28 k_29 v_6.toNatClampNeg ((z_28.1 k_29 v_6.toNatClampNeg) + 1)) (fun z_33 => lnk (z_33.2.2 h0 60) (fun k_34 => grd (okA sh n k_34 101 v_6) (some (z_33, (z_33.1 k_34 v_6.toNatClampNeg)))))))))))))))))))))) else some (z_4, (-2))))))
theorem fn_X18_argument_B91_s {F : Nat} {sh : Nat → Nat × Nat} {n : Nat} {h0 : Nat} {x0 : Int32} {x1 : Int64} {x2 : Int64} {z_4 : St} {y : St × Int32} (h : fn_X18_argument_B91 F sh n h0 x0 x1 x2 z_4 = some y) : (grd (okO sh n h0 18) (lt_ ((z_4.1 h0 52) - 1) (fun v_6 => if (v_6 : Int32) < (z_4.1 h0 53) then some (z_4, (-2)) else lnk (z_4.2.2 h0 54) (fun k_8 => grd (okA sh n k_8 101 v_6) (if ((z_4.1 k_8 v_6.toNatClampNeg) : Int32) = 2 then lnk (z_4.2.2 h0 60) (fun k_11 => grd (okA sh n k_11 101 v_6) (if ((z_4.1 k_11 v_6.toNatClampNeg) : Int32) = 8 then some (z_4, (-3)) else lnk (z_4.2.2 h0 60) (fun k_14 => grd (okA sh n k_14 101 v_6) (lt_ ((8 * v_6) + (z_4.1 k_14 v_6.toNatClampNeg)) (fun v_16 => lnk (z_4.2.2 h0 61) (fun k_17 => grd (okA sh n k_17 100 v_16) (lt_ (si z_4 k_17 v_16.toNatClampNeg (vp_nar .byte ((x0 : Int32).toInt8.toInt32))) (fun z_20 => lnk (z_20.2.2 h0 62) (fun k_21 => grd (okA sh n k_21 102 v_16) (lt_ (sl z_20 k_21 v_16.toNatClampNeg x1) (fun z_24 => lnk (z_24.2.2 h0 63) (fun k_25 => grd (okA sh n k_25 102 v_16) (lt_ (sl z_24 k_25 v_16.toNatClampNeg x2) (fun z_28 => lnk (z_28.2.2 h0 60) (fun k_29 => grd (okA sh n k_29 101 v_6) (grd (okA sh n k_29 101 v_6) (lt_ (si z_28 k_29 v_6.toNatClampNeg ((z_28.1 k_29 v_6.toNatClampNeg) + 1)) (fun z_33 => lnk (z_33.2.2 h0 60) (fun k_34 => grd (okA sh n k_34 101 v_6) (some (z_33, (z_33.1 k_34 v_6.toNatClampNeg)))))))))))))))))))))) else some (z_4, (-2))))))) = some y := h
def fn_X18_argument_B71 (F : Nat) (sh : Nat → Nat × Nat) (n : Nat) (x0 : Int32) (h0 : Nat) (x1 : Int64) (x2 : Int64) (z_2 : St) (p_1 : Int32) : Option (St × Int32) := if (p_1 : Int32) = 0 then some (z_2, (-1)) else if (x0 : Int32) = 4 then fn_X18_argument_B91 F sh n h0 x0 x1 x2 z_2  else if (x1 : Int64) = 0 then fn_X18_argument_B91 F sh n h0 x0 x1 x2 z_2  else some (z_2, (-1))
theorem fn_X18_argument_B71_s {F : Nat} {sh : Nat → Nat × Nat} {n : Nat} {x0 : Int32} {h0 : Nat} {x1 : Int64} {x2 : Int64} {z_2 : St} {p_1 : Int32} {y : St × Int32} (h : fn_X18_argument_B71 F sh n x0 h0 x1 x2 z_2 p_1 = some y) : (if (p_1 : Int32) = 0 then some (z_2, (-1)) else if (x0 : Int32) = 4 then fn_X18_argument_B91 F sh n h0 x0 x1 x2 z_2  else if (x1 : Int64) = 0 then fn_X18_argument_B91 F sh n h0 x0 x1 x2 z_2  else some (z_2, (-1))) = some y := h
def fn_X18_argument_B70 (F : Nat) (sh : Nat → Nat × Nat) (n : Nat) (x0 : Int32) (h0 : Nat) (x1 : Int64) (x2 : Int64) (z_40 : St) : Option (St × Int32) := fn_X18_argument_B71 F sh n x0 h0 x1 x2 z_40 0
theorem fn_X18_argument_B70_s {F : Nat} {sh : Nat → Nat × Nat} {n : Nat} {x0 : Int32} {h0 : Nat} {x1 : Int64} {x2 : Int64} {z_40 : St} {y : St × Int32} (h : fn_X18_argument_B70 F sh n x0 h0 x1 x2 z_40 = some y) : (fn_X18_argument_B71 F sh n x0 h0 x1 x2 z_40 0) = some y := h
def fn_X18_argument_B52 (F : Nat) (sh : Nat → Nat × Nat) (n : Nat) (x0 : Int32) (h0 : Nat) (x1 : Int64) (x2 : Int64) (z_43 : St) : Option (St × Int32) := fn_X18_argument_B71 F sh n x0 h0 x1 x2 z_43 0
theorem fn_X18_argument_B52_s {F : Nat} {sh : Nat → Nat × Nat} {n : Nat} {x0 : Int32} {h0 : Nat} {x1 : Int64} {x2 : Int64} {z_43 : St} {y : St × Int32} (h : fn_X18_argument_B52 F sh n x0 h0 x1 x2 z_43 = some y) : (fn_X18_argument_B71 F sh n x0 h0 x1 x2 z_43 0) = some y := h
def fn_X18_argument_B19 (F : Nat) (sh : Nat → Nat × Nat) (n : Nat) (x0 : Int32) (h0 : Nat) (x1 : Int64) (x2 : Int64) (z_46 : St) : Option (St × Int32) := fn_X18_argument_B71 F sh n x0 h0 x1 x2 z_46 1
theorem fn_X18_argument_B19_s {F : Nat} {sh : Nat → Nat × Nat} {n : Nat} {x0 : Int32} {h0 : Nat} {x1 : Int64} {x2 : Int64} {z_46 : St} {y : St × Int32} (h : fn_X18_argument_B19 F sh n x0 h0 x1 x2 z_46 = some y) : (fn_X18_argument_B71 F sh n x0 h0 x1 x2 z_46 1) = some y := h
def fn_X18_argument (F : Nat) (sh : Nat → Nat × Nat) (n : Nat) (z : St) (h0 : Nat) (x0 : Int32) (x1 : Int64) (x2 : Int64) : Option (St × Int32) := if (x0 : Int32) = 1 then if (x2 : Int64) = 0 then fn_X18_argument_B19 F sh n x0 h0 x1 x2 z  else if (x2 : Int64) = 1 then fn_X18_argument_B19 F sh n x0 h0 x1 x2 z  else fn_X18_argument_B71 F sh n x0 h0 x1 x2 z 0 else if (x0 : Int32) = 2 then if (x2 : Int64) < 0 then fn_X18_argument_B52 F sh n x0 h0 x1 x2 z  else if (256 : Int64) ≤ x2 then fn_X18_argument_B52 F sh n x0 h0 x1 x2 z  else fn_X18_argument_B71 F sh n x0 h0 x1 x2 z 1 else if (x0 : Int32) < 3 then fn_X18_argument_B70 F sh n x0 h0 x1 x2 z  else if (5 : Int32) < x0 then fn_X18_argument_B70 F sh n x0 h0 x1 x2 z  else fn_X18_argument_B71 F sh n x0 h0 x1 x2 z 1
set_option maxHeartbeats 4000000 in
set_option maxRecDepth 100000 in
theorem de_X18_argument (l : Launch) (dC : Nat → ClassId) (dI : Nat → Nat → Nat) (cy : Nat → ClassId) (a : Nat → Nat) (sh : Nat → Nat × Nat) (n sz : Nat) (F : Nat) (z : St) (h0 : Nat) (x0 : Int32) (x1 : Int64) (x2 : Int64) {z8 : St} {r8 : Int32} (hf : fn_X18_argument F sh n z h0 x0 x1 x2 = some (z8, r8)) : Met l yX18_argument wsX18_argument ({ frames := 0, cells := 0, slots := 0, locals := 0 }) (va_Pc [.ref (a h0), .int x0, .long x1, .long x2] (fun U => U.heap.size = sz ∧ va_P (dC, dI) vwCl (Wd cy a sh n z) U.heap ∧ va_K (dC, dI) vwCl (TYS cy) U ∧ va_D (fun _ => True) (Wd cy a sh n z) ∧ NK U)) (va_Qi (fun (r9 : Int32) (u : Unit) => r9 = r8) (fun u t => va_P (dC, dI) vwCl (Wd cy a sh n z8) t.heap ∧ va_K (dC, dI) vwCl (TYS cy) t ∧ va_D (va_A (Wd cy a sh n z) sz) (Wd cy a sh n z8)) (va_A (Wd cy a sh n z) sz)) 0 0 (va_A (Wd cy a sh n z) sz) := by
  refine Met.ofW (cc := cX18_argument) (maxL := 9) (ret := (some .int)) (by decide) rfl ?_
  intro p e s m args below meth c s₁ B hml hv
  obtain ⟨rfl, hsz, hP, hK, hD0, hN⟩ := hv
  have hx := B.exec
  have hb := B.bytes
  have hr := B.returns
  have hts := atoms_spec (ws := wsX18_argument) B.pre
  have hown : s.vm.findClass RX18 = some m.cls := findClass_of_methodNamed B.named
  have hlocks := B.notSynchronized
  subst hsz
  have hD := hD0.self (sz := s.heap.size)
  clear hD0
  generalize hAe : va_A (Wd cy a sh n z) s.heap.size = A at hD ⊢
  have hA : ∀ q : Nat, s.heap.size ≤ q → A q := fun q h => by rw [← hAe]; exact Or.inr h
  clear hAe
  have hS : va_S A s.heap s.heap [] := va_S.rf
  have hl := lv_entry ([.ref (a h0), .int x0, .long x1, .long x2]) (n := 9) (Nat.le_of_ble_eq_true rfl)
  rw [lg_entry_eq]
  generalize (lg_sl ([.ref (a h0), .int x0, .long x1, .long x2]) ++ List.replicate (9 - (lg_sl ([.ref (a h0), .int x0, .long x1, .long x2])).length) Slot.unset).toArray = ls at hl ⊢
  replace hl : lv_has ls 9 [(0, .ref (a h0)), (1, .int x0), (2, .long x1), (4, .long x2)] := hl
  unfold fn_X18_argument at hf
  refine de_start hS hP (fun H locs hS hP => ?_)
  refine lv_iload_n hx hb dX18_argument_0 rfl (lv_at hl 1 rfl) ?_
  refine lv_iconst (v := 1) hx hb dX18_argument_1 (by decide) ?_
  refine de_cut (h := 71) (fun (x : St × Int32) => [.int x.2]) (fun x ls H locs => lv_has ls 9 [(0, .ref (a h0)), (1, .int x0), (2, .long x1), (4, .long x2)] ∧ va_P (dC, dI) vwCl (Wd cy a sh n x.1) H ∧ va_D A (Wd cy a sh n x.1) ∧ va_S A s.heap H locs) (fun x => fn_X18_argument_B71 F sh n x0 h0 x1 x2 x.1 x.2) (z8, r8) ?_ (fun B71 => ?_)
  · intro x ls H locs hI hf
    obtain ⟨z_2, p_1⟩ := x
    obtain ⟨hl2, hP2, hD2, hS2⟩ := hI
    replace hl : lv_has ls 9 [(0, .ref (a h0)), (1, .int x0), (2, .long x1), (4, .long x2)] := hl2
    replace hP := hP2
    replace hD := hD2
    replace hS := hS2
    clear hl2 hP2 hD2 hS2
    replace hf := fn_X18_argument_B71_s hf
    refine W.eq (g2 := F0 m 71 ls [.int p_1]) rfl ?_
    refine lv_istore (lv' := [(6, .int p_1), (0, .ref (a h0)), (1, .int x0), (2, .long x1), (4, .long x2)]) hx hb dX18_argument_71 hl (by decide) rfl (fun ls hl2 => ?_)
    replace hl := hl2
    clear hl2
    refine lv_iload hx hb dX18_argument_73 (lv_at hl 0 rfl) ?_
    refine lv_if_eq (tgt := 89) hx hb dX18_argument_75 (by decide) (fun c_3 => ?_) (fun c_3 => ?_)
    · skip
      rw [if_pos c_3] at hf
      refine lv_iconst (v := (-1)) hx hb dX18_argument_89 (by decide) ?_
      obtain ⟨h8, h9⟩ := ret_some hf
      rw [h8, h9]
      exact W.iret (v := (-1)) hx hb hr (fun t ht hW => ⟨⟨(-1), (), rfl, rfl, by rw [ht]; exact hP, va_K.moved hW.alike hK, hD⟩, hS.F ht⟩) hS.2.2 dX18_argument_90
    · skip
      rw [if_neg c_3] at hf
      refine lv_iload_n hx hb dX18_argument_78 rfl (lv_at hl 2 rfl) ?_
      refine lv_iconst (v := 4) hx hb dX18_argument_79 (by decide) ?_
      refine de_cut (h := 91) (fun (x : St) => []) (fun x ls H locs => lv_has ls 9 [(0, .ref (a h0)), (1, .int x0), (2, .long x1), (4, .long x2)] ∧ va_P (dC, dI) vwCl (Wd cy a sh n x) H ∧ va_D A (Wd cy a sh n x) ∧ va_S A s.heap H locs) (fun x => fn_X18_argument_B91 F sh n h0 x0 x1 x2 x) (z8, r8) ?_ (fun B91 => ?_)
      · intro x ls H locs hI hf
        obtain ⟨z_4, ez⟩ : ∃ w, w = x := ⟨_, rfl⟩
        subst ez
        obtain ⟨hl2, hP2, hD2, hS2⟩ := hI
        replace hl : lv_has ls 9 [(0, .ref (a h0)), (1, .int x0), (2, .long x1), (4, .long x2)] := hl2
        replace hP := hP2
        replace hD := hD2
        replace hS := hS2
        clear hl2 hP2 hD2 hS2
        replace hf := fn_X18_argument_B91_s hf
        refine W.eq (g2 := F0 m 91 ls []) rfl ?_
        refine lv_aload_n hx hb dX18_argument_91 rfl (lv_at hl 0 rfl) ?_
        obtain ⟨g_5, hf⟩ := grd_some hf
        obtain ⟨kg_5, sg_5⟩ := okO_at g_5
        refine va_get (D := (dC, dI)) (ci := 18) (v := .int (z_4.1 h0 52)) (C := RX18) (T := TX18) (N := 78) hx hb hts iwd_X18_argument_X18 hown hK hP h0 (Wd_ob kg_5 sg_5 (by decide)) rfl 52 (by decide) (hts _ md_X18_argument_2) (fun _ h9 => h9) (fl_at (t := 0) rfl) dX18_argument_92 ?_
        refine lv_iconst (v := 1) hx hb dX18_argument_95 (by decide) ?_
        refine lv_isub hx hb dX18_argument_96 ?_
        refine lv_topi (fun v_6 ev_6 => ?_)
        replace hf := lt_at ev_6 hf
        clear ev_6
        refine lv_istore (lv' := [(7, .int v_6), (0, .ref (a h0)), (1, .int x0), (2, .long x1), (4, .long x2)]) hx hb dX18_argument_97 hl (by decide) rfl (fun ls hl2 => ?_)
        replace hl := hl2
        clear hl2
        refine lv_iload hx hb dX18_argument_99 (lv_at hl 0 rfl) ?_
        refine lv_aload_n hx hb dX18_argument_101 rfl (lv_at hl 1 rfl) ?_
        refine va_get (D := (dC, dI)) (ci := 18) (v := .int (z_4.1 h0 53)) (C := RX18) (T := TX18) (N := 78) hx hb hts iwd_X18_argument_X18 hown hK hP h0 (Wd_ob kg_5 sg_5 (by decide)) rfl 53 (by decide) (hts _ md_X18_argument_3) (fun _ h9 => h9) (fl_at (t := 0) rfl) dX18_argument_102 ?_
        refine lv_icmp_lt (tgt := 119) hx hb dX18_argument_105 (by decide) (fun c_7 => ?_) (fun c_7 => ?_)
        · skip
          rw [if_pos c_7] at hf
          refine lv_bipush (v := (-2)) hx hb dX18_argument_119 (by decide) ?_
          obtain ⟨h8, h9⟩ := ret_some hf
          rw [h8, h9]
          exact W.iret (v := (-2)) hx hb hr (fun t ht hW => ⟨⟨(-2), (), rfl, rfl, by rw [ht]; exact hP, va_K.moved hW.alike hK, hD⟩, hS.F ht⟩) hS.2.2 dX18_argument_121
        · skip
          rw [if_neg c_7] at hf
          refine lv_aload_n hx hb dX18_argument_108 rfl (lv_at hl 1 rfl) ?_
          obtain ⟨k_8, ek_8, hf⟩ := lnk_some hf
          refine va_get (D := (dC, dI)) (ci := 18) (v := .ref (a k_8)) (C := RX18) (T := TX18) (N := 78) hx hb hts iwd_X18_argument_X18 hown hK hP h0 (Wd_ob kg_5 sg_5 (by decide)) rfl 54 (by decide) (hts _ md_X18_argument_4) (fun _ h9 => h9) (fl_q rfl ek_8) dX18_argument_109 ?_
          refine lv_iload hx hb dX18_argument_112 (lv_at hl 0 rfl) ?_
          obtain ⟨g_9, hf⟩ := grd_some hf
          obtain ⟨kg_9, sg_9, ig_9⟩ := okA_at g_9
          refine va_iald hx hb hK hP k_8 1 (Wd_ai kg_9 sg_9) rfl ig_9 dX18_argument_114 ?_
          refine lv_iconst (v := 2) hx hb dX18_argument_115 (by decide) ?_
          refine lv_icmp_eq (tgt := 122) hx hb dX18_argument_116 (by decide) (fun c_10 => ?_) (fun c_10 => ?_)
          · skip
            rw [if_pos c_10] at hf
            refine lv_aload_n hx hb dX18_argument_122 rfl (lv_at hl 1 rfl) ?_
            obtain ⟨k_11, ek_11, hf⟩ := lnk_some hf
            refine va_get (D := (dC, dI)) (ci := 18) (v := .ref (a k_11)) (C := RX18) (T := TX18) (N := 78) hx hb hts iwd_X18_argument_X18 hown hK hP h0 (Wd_ob kg_5 sg_5 (by decide)) rfl 60 (by decide) (hts _ md_X18_argument_5) (fun _ h9 => h9) (fl_q rfl ek_11) dX18_argument_123 ?_
            refine lv_iload hx hb dX18_argument_126 (lv_at hl 0 rfl) ?_
            obtain ⟨g_12, hf⟩ := grd_some hf
            obtain ⟨kg_12, sg_12, ig_12⟩ := okA_at g_12
            refine va_iald hx hb hK hP k_11 1 (Wd_ai kg_12 sg_12) rfl ig_12 dX18_argument_128 ?_
            refine lv_bipush (v := 8) hx hb dX18_argument_129 (by decide) ?_
            refine lv_icmp_ne (tgt := 137) hx hb dX18_argument_131 (by decide) (fun c_13 => ?_) (fun c_13 => ?_)
            · skip
              rw [if_neg c_13] at hf
              refine lv_bipush (v := 8) hx hb dX18_argument_137 (by decide) ?_
              refine lv_iload hx hb dX18_argument_139 (lv_at hl 0 rfl) ?_
              refine lv_imul hx hb dX18_argument_141 ?_
              refine lv_aload_n hx hb dX18_argument_142 rfl (lv_at hl 1 rfl) ?_
              obtain ⟨k_14, ek_14, hf⟩ := lnk_some hf
              refine va_get (D := (dC, dI)) (ci := 18) (v := .ref (a k_14)) (C := RX18) (T := TX18) (N := 78) hx hb hts iwd_X18_argument_X18 hown hK hP h0 (Wd_ob kg_5 sg_5 (by decide)) rfl 60 (by decide) (hts _ md_X18_argument_5) (fun _ h9 => h9) (fl_q rfl ek_14) dX18_argument_143 ?_
              refine lv_iload hx hb dX18_argument_146 (lv_at hl 0 rfl) ?_
              obtain ⟨g_15, hf⟩ := grd_some hf
              obtain ⟨kg_15, sg_15, ig_15⟩ := okA_at g_15
              refine va_iald hx hb hK hP k_14 1 (Wd_ai kg_15 sg_15) rfl ig_15 dX18_argument_148 ?_
              refine lv_iadd hx hb dX18_argument_149 ?_
              refine lv_topi (fun v_16 ev_16 => ?_)
              replace hf := lt_at ev_16 hf
              clear ev_16
              refine lv_istore (lv' := [(8, .int v_16), (7, .int v_6), (0, .ref (a h0)), (1, .int x0), (2, .long x1), (4, .long x2)]) hx hb dX18_argument_150 hl (by decide) rfl (fun ls hl2 => ?_)
              replace hl := hl2
              clear hl2
              refine lv_aload_n hx hb dX18_argument_152 rfl (lv_at hl 2 rfl) ?_
              obtain ⟨k_17, ek_17, hf⟩ := lnk_some hf
              refine va_get (D := (dC, dI)) (ci := 18) (v := .ref (a k_17)) (C := RX18) (T := TX18) (N := 78) hx hb hts iwd_X18_argument_X18 hown hK hP h0 (Wd_ob kg_5 sg_5 (by decide)) rfl 61 (by decide) (hts _ md_X18_argument_6) (fun _ h9 => h9) (fl_q rfl ek_17) dX18_argument_153 ?_
              refine lv_iload hx hb dX18_argument_156 (lv_at hl 0 rfl) ?_
              refine lv_iload_n hx hb dX18_argument_158 rfl (lv_at hl 3 rfl) ?_
              refine lv_i2b (v := (x0 : Int32).toInt8.toInt32) hx hb dX18_argument_159 rfl ?_
              obtain ⟨g_18, hf⟩ := grd_some hf
              obtain ⟨kg_18, sg_18, ig_18⟩ := okA_at g_18
              refine va_bast hx hb hK hP hD hS k_17 0 (Wd_ab kg_18 sg_18) rfl ig_18 dX18_argument_160 (fun H_19 locs hP2 hD2 hS2 => ?_)
              rw [Wd_tb sg_18] at hP2 hD2
              obtain ⟨z_20, ez_20⟩ : ∃ w, w = si z_4 k_17 v_16.toNatClampNeg (vp_nar .byte ((x0 : Int32).toInt8.toInt32)) := ⟨_, rfl⟩
              rw [← ez_20] at hP2 hD2
              replace hf := lt_at ez_20 hf
              clear ez_20
              replace hP := hP2
              replace hD := hD2
              replace hS := hS2
              clear hP2 hD2 hS2
              refine lv_aload_n hx hb dX18_argument_161 rfl (lv_at hl 2 rfl) ?_
              obtain ⟨k_21, ek_21, hf⟩ := lnk_some hf
              refine va_get (D := (dC, dI)) (ci := 18) (v := .ref (a k_21)) (C := RX18) (T := TX18) (N := 78) hx hb hts iwd_X18_argument_X18 hown hK hP h0 (Wd_ob kg_5 sg_5 (by decide)) rfl 62 (by decide) (hts _ md_X18_argument_7) (fun _ h9 => h9) (fl_q rfl ek_21) dX18_argument_162 ?_
              refine lv_iload hx hb dX18_argument_165 (lv_at hl 0 rfl) ?_
              refine lv_lload_n hx hb dX18_argument_167 rfl (lv_at hl 4 rfl) ?_
              obtain ⟨g_22, hf⟩ := grd_some hf
              obtain ⟨kg_22, sg_22, ig_22⟩ := okA_at g_22
              refine va_last hx hb hK hP hD hS k_21 2 (Wd_al kg_22 sg_22) rfl ig_22 dX18_argument_168 (fun H_23 locs hP2 hD2 hS2 => ?_)
              rw [Wd_tl sg_22] at hP2 hD2
              obtain ⟨z_24, ez_24⟩ : ∃ w, w = sl z_20 k_21 v_16.toNatClampNeg x1 := ⟨_, rfl⟩
              rw [← ez_24] at hP2 hD2
              replace hf := lt_at ez_24 hf
              clear ez_24
              replace hP := hP2
              replace hD := hD2
              replace hS := hS2
              clear hP2 hD2 hS2
              refine lv_aload_n hx hb dX18_argument_169 rfl (lv_at hl 2 rfl) ?_
              obtain ⟨k_25, ek_25, hf⟩ := lnk_some hf
              refine va_get (D := (dC, dI)) (ci := 18) (v := .ref (a k_25)) (C := RX18) (T := TX18) (N := 78) hx hb hts iwd_X18_argument_X18 hown hK hP h0 (Wd_ob kg_5 sg_5 (by decide)) rfl 63 (by decide) (hts _ md_X18_argument_8) (fun _ h9 => h9) (fl_q rfl ek_25) dX18_argument_170 ?_
              refine lv_iload hx hb dX18_argument_173 (lv_at hl 0 rfl) ?_
              refine lv_lload hx hb dX18_argument_175 (lv_at hl 5 rfl) ?_
              obtain ⟨g_26, hf⟩ := grd_some hf
              obtain ⟨kg_26, sg_26, ig_26⟩ := okA_at g_26
              refine va_last hx hb hK hP hD hS k_25 2 (Wd_al kg_26 sg_26) rfl ig_26 dX18_argument_177 (fun H_27 locs hP2 hD2 hS2 => ?_)
              rw [Wd_tl sg_26] at hP2 hD2
              obtain ⟨z_28, ez_28⟩ : ∃ w, w = sl z_24 k_25 v_16.toNatClampNeg x2 := ⟨_, rfl⟩
              rw [← ez_28] at hP2 hD2
              replace hf := lt_at ez_28 hf
              clear ez_28
              replace hP := hP2
              replace hD := hD2
              replace hS := hS2
              clear hP2 hD2 hS2
              refine lv_aload_n hx hb dX18_argument_178 rfl (lv_at hl 2 rfl) ?_
              obtain ⟨k_29, ek_29, hf⟩ := lnk_some hf
              refine va_get (D := (dC, dI)) (ci := 18) (v := .ref (a k_29)) (C := RX18) (T := TX18) (N := 78) hx hb hts iwd_X18_argument_X18 hown hK hP h0 (Wd_ob kg_5 sg_5 (by decide)) rfl 60 (by decide) (hts _ md_X18_argument_5) (fun _ h9 => h9) (fl_q rfl ek_29) dX18_argument_179 ?_
              refine lv_iload hx hb dX18_argument_182 (lv_at hl 1 rfl) ?_
              refine lv_dup2_11 hx hb dX18_argument_184 rfl rfl ?_
              obtain ⟨g_30, hf⟩ := grd_some hf
              obtain ⟨kg_30, sg_30, ig_30⟩ := okA_at g_30
              refine va_iald hx hb hK hP k_29 1 (Wd_ai kg_30 sg_30) rfl ig_30 dX18_argument_185 ?_
              refine lv_iconst (v := 1) hx hb dX18_argument_186 (by decide) ?_
              refine lv_iadd hx hb dX18_argument_187 ?_
              obtain ⟨g_31, hf⟩ := grd_some hf
              obtain ⟨kg_31, sg_31, ig_31⟩ := okA_at g_31
              refine va_iast hx hb hK hP hD hS k_29 1 (Wd_ai kg_31 sg_31) rfl ig_31 dX18_argument_188 (fun H_32 locs hP2 hD2 hS2 => ?_)
              rw [Wd_ti sg_31] at hP2 hD2
              obtain ⟨z_33, ez_33⟩ : ∃ w, w = si z_28 k_29 v_6.toNatClampNeg ((z_28.1 k_29 v_6.toNatClampNeg) + 1) := ⟨_, rfl⟩
              rw [← ez_33] at hP2 hD2
              replace hf := lt_at ez_33 hf
              clear ez_33
              replace hP := hP2
              replace hD := hD2
              replace hS := hS2
              clear hP2 hD2 hS2
              refine lv_aload_n hx hb dX18_argument_189 rfl (lv_at hl 2 rfl) ?_
              obtain ⟨k_34, ek_34, hf⟩ := lnk_some hf
              refine va_get (D := (dC, dI)) (ci := 18) (v := .ref (a k_34)) (C := RX18) (T := TX18) (N := 78) hx hb hts iwd_X18_argument_X18 hown hK hP h0 (Wd_ob kg_5 sg_5 (by decide)) rfl 60 (by decide) (hts _ md_X18_argument_5) (fun _ h9 => h9) (fl_q rfl ek_34) dX18_argument_190 ?_
              refine lv_iload hx hb dX18_argument_193 (lv_at hl 1 rfl) ?_
              obtain ⟨g_35, hf⟩ := grd_some hf
              obtain ⟨kg_35, sg_35, ig_35⟩ := okA_at g_35
              refine va_iald hx hb hK hP k_34 1 (Wd_ai kg_35 sg_35) rfl ig_35 dX18_argument_195 ?_
              obtain ⟨h8, h9⟩ := ret_some hf
              rw [h8, h9]
              exact W.iret (v := (z_33.1 k_34 v_6.toNatClampNeg)) hx hb hr (fun t ht hW => ⟨⟨(z_33.1 k_34 v_6.toNatClampNeg), (), rfl, rfl, by rw [ht]; exact hP, va_K.moved hW.alike hK, hD⟩, hS.F ht⟩) hS.2.2 dX18_argument_196
            · skip
              rw [if_pos c_13] at hf
              refine lv_bipush (v := (-3)) hx hb dX18_argument_134 (by decide) ?_
              obtain ⟨h8, h9⟩ := ret_some hf
              rw [h8, h9]
              exact W.iret (v := (-3)) hx hb hr (fun t ht hW => ⟨⟨(-3), (), rfl, rfl, by rw [ht]; exact hP, va_K.moved hW.alike hK, hD⟩, hS.F ht⟩) hS.2.2 dX18_argument_136
          · skip
            rw [if_neg c_10] at hf
            refine lv_bipush (v := (-2)) hx hb dX18_argument_119 (by decide) ?_
            obtain ⟨h8, h9⟩ := ret_some hf
            rw [h8, h9]
            exact W.iret (v := (-2)) hx hb hr (fun t ht hW => ⟨⟨(-2), (), rfl, rfl, by rw [ht]; exact hP, va_K.moved hW.alike hK, hD⟩, hS.F ht⟩) hS.2.2 dX18_argument_121
      refine lv_icmp_eq (tgt := 91) hx hb dX18_argument_80 (by decide) (fun c_36 => ?_) (fun c_36 => ?_)
      · skip
        rw [if_pos c_36] at hf
        exact B91 (z_2) ls H locs ⟨lv_sub hl [1, 2, 3, 4] rfl, hP, hD, hS⟩ hf
      · skip
        rw [if_neg c_36] at hf
        refine lv_lload_n hx hb dX18_argument_83 rfl (lv_at hl 3 rfl) ?_
        refine lv_lconst (v := 0) hx hb dX18_argument_84 (by decide) ?_
        refine W.lcmp hx hb dX18_argument_85 ?_
        refine lv_if_eq (tgt := 91) hx hb dX18_argument_86 (by decide) (fun c_37 => ?_) (fun c_37 => ?_)
        · skip
          rw [lg_cmp_eq] at c_37
          rw [if_pos c_37] at hf
          exact B91 (z_2) ls H locs ⟨lv_sub hl [1, 2, 3, 4] rfl, hP, hD, hS⟩ hf
        · skip
          rw [lg_cmp_eq] at c_37
          rw [if_neg c_37] at hf
          refine lv_iconst (v := (-1)) hx hb dX18_argument_89 (by decide) ?_
          obtain ⟨h8, h9⟩ := ret_some hf
          rw [h8, h9]
          exact W.iret (v := (-1)) hx hb hr (fun t ht hW => ⟨⟨(-1), (), rfl, rfl, by rw [ht]; exact hP, va_K.moved hW.alike hK, hD⟩, hS.F ht⟩) hS.2.2 dX18_argument_90
  refine lv_icmp_ne (tgt := 27) hx hb dX18_argument_2 (by decide) (fun c_38 => ?_) (fun c_38 => ?_)
  · skip
    rw [if_neg c_38] at hf
    refine lv_iload_n hx hb dX18_argument_27 rfl (lv_at hl 1 rfl) ?_
    refine lv_iconst (v := 2) hx hb dX18_argument_28 (by decide) ?_
    refine lv_icmp_ne (tgt := 56) hx hb dX18_argument_29 (by decide) (fun c_39 => ?_) (fun c_39 => ?_)
    · skip
      rw [if_neg c_39] at hf
      refine lv_iload_n hx hb dX18_argument_56 rfl (lv_at hl 1 rfl) ?_
      refine lv_iconst (v := 3) hx hb dX18_argument_57 (by decide) ?_
      refine de_cut (h := 70) (fun (x : St) => []) (fun x ls H locs => lv_has ls 9 [(0, .ref (a h0)), (1, .int x0), (2, .long x1), (4, .long x2)] ∧ va_P (dC, dI) vwCl (Wd cy a sh n x) H ∧ va_D A (Wd cy a sh n x) ∧ va_S A s.heap H locs) (fun x => fn_X18_argument_B70 F sh n x0 h0 x1 x2 x) (z8, r8) ?_ (fun B70 => ?_)
      · intro x ls H locs hI hf
        obtain ⟨z_40, ez⟩ : ∃ w, w = x := ⟨_, rfl⟩
        subst ez
        obtain ⟨hl2, hP2, hD2, hS2⟩ := hI
        replace hl : lv_has ls 9 [(0, .ref (a h0)), (1, .int x0), (2, .long x1), (4, .long x2)] := hl2
        replace hP := hP2
        replace hD := hD2
        replace hS := hS2
        clear hl2 hP2 hD2 hS2
        replace hf := fn_X18_argument_B70_s hf
        refine W.eq (g2 := F0 m 70 ls []) rfl ?_
        refine lv_iconst (v := 0) hx hb dX18_argument_70 (by decide) ?_
        exact B71 (z_40, 0) ls H locs ⟨lv_sub hl [0, 1, 2, 3] rfl, hP, hD, hS⟩ hf
      refine lv_icmp_lt (tgt := 70) hx hb dX18_argument_58 (by decide) (fun c_41 => ?_) (fun c_41 => ?_)
      · skip
        rw [if_pos c_41] at hf
        exact B70 (z) ls H locs ⟨lv_sub hl [0, 1, 2, 3] rfl, hP, hD, hS⟩ hf
      · skip
        rw [if_neg c_41] at hf
        refine lv_iload_n hx hb dX18_argument_61 rfl (lv_at hl 1 rfl) ?_
        refine lv_iconst (v := 5) hx hb dX18_argument_62 (by decide) ?_
        refine lv_icmp_gt (tgt := 70) hx hb dX18_argument_63 (by decide) (fun c_42 => ?_) (fun c_42 => ?_)
        · skip
          rw [if_pos c_42] at hf
          exact B70 (z) ls H locs ⟨lv_sub hl [0, 1, 2, 3] rfl, hP, hD, hS⟩ hf
        · skip
          rw [if_neg c_42] at hf
          refine lv_iconst (v := 1) hx hb dX18_argument_66 (by decide) ?_
          refine lv_goto (tgt := 71) hx hb dX18_argument_67 (by decide) ?_
          exact B71 (z, 1) ls H locs ⟨lv_sub hl [0, 1, 2, 3] rfl, hP, hD, hS⟩ hf
    · skip
      rw [if_pos c_39] at hf
      refine lv_lload hx hb dX18_argument_32 (lv_at hl 3 rfl) ?_
      refine lv_lconst (v := 0) hx hb dX18_argument_34 (by decide) ?_
      refine W.lcmp hx hb dX18_argument_35 ?_
      refine de_cut (h := 52) (fun (x : St) => []) (fun x ls H locs => lv_has ls 9 [(0, .ref (a h0)), (1, .int x0), (2, .long x1), (4, .long x2)] ∧ va_P (dC, dI) vwCl (Wd cy a sh n x) H ∧ va_D A (Wd cy a sh n x) ∧ va_S A s.heap H locs) (fun x => fn_X18_argument_B52 F sh n x0 h0 x1 x2 x) (z8, r8) ?_ (fun B52 => ?_)
      · intro x ls H locs hI hf
        obtain ⟨z_43, ez⟩ : ∃ w, w = x := ⟨_, rfl⟩
        subst ez
        obtain ⟨hl2, hP2, hD2, hS2⟩ := hI
        replace hl : lv_has ls 9 [(0, .ref (a h0)), (1, .int x0), (2, .long x1), (4, .long x2)] := hl2
        replace hP := hP2
        replace hD := hD2
        replace hS := hS2
        clear hl2 hP2 hD2 hS2
        replace hf := fn_X18_argument_B52_s hf
        refine W.eq (g2 := F0 m 52 ls []) rfl ?_
        refine lv_iconst (v := 0) hx hb dX18_argument_52 (by decide) ?_
        refine lv_goto (tgt := 71) hx hb dX18_argument_53 (by decide) ?_
        exact B71 (z_43, 0) ls H locs ⟨lv_sub hl [0, 1, 2, 3] rfl, hP, hD, hS⟩ hf
      refine lv_if_lt (tgt := 52) hx hb dX18_argument_36 (by decide) (fun c_44 => ?_) (fun c_44 => ?_)
      · skip
        rw [lg_cmp_lt] at c_44
        rw [if_pos c_44] at hf
        exact B52 (z) ls H locs ⟨lv_sub hl [0, 1, 2, 3] rfl, hP, hD, hS⟩ hf
      · skip
        rw [lg_cmp_lt] at c_44
        rw [if_neg c_44] at hf
        refine lv_lload hx hb dX18_argument_39 (lv_at hl 3 rfl) ?_
        refine lv_ldc2 hx hb hown (hts _ md_X18_argument_1) dX18_argument_41 ?_
        refine W.lcmp hx hb dX18_argument_44 ?_
        refine lv_if_ge (tgt := 52) hx hb dX18_argument_45 (by decide) (fun c_45 => ?_) (fun c_45 => ?_)
        · skip
          rw [lg_cmp_ge] at c_45
          rw [if_pos c_45] at hf
          exact B52 (z) ls H locs ⟨lv_sub hl [0, 1, 2, 3] rfl, hP, hD, hS⟩ hf
        · skip
          rw [lg_cmp_ge] at c_45
          rw [if_neg c_45] at hf
          refine lv_iconst (v := 1) hx hb dX18_argument_48 (by decide) ?_
          refine lv_goto (tgt := 71) hx hb dX18_argument_49 (by decide) ?_
          exact B71 (z, 1) ls H locs ⟨lv_sub hl [0, 1, 2, 3] rfl, hP, hD, hS⟩ hf
  · skip
    rw [if_pos c_38] at hf
    refine lv_lload hx hb dX18_argument_5 (lv_at hl 3 rfl) ?_
    refine lv_lconst (v := 0) hx hb dX18_argument_7 (by decide) ?_
    refine W.lcmp hx hb dX18_argument_8 ?_
    refine de_cut (h := 19) (fun (x : St) => []) (fun x ls H locs => lv_has ls 9 [(0, .ref (a h0)), (1, .int x0), (2, .long x1), (4, .long x2)] ∧ va_P (dC, dI) vwCl (Wd cy a sh n x) H ∧ va_D A (Wd cy a sh n x) ∧ va_S A s.heap H locs) (fun x => fn_X18_argument_B19 F sh n x0 h0 x1 x2 x) (z8, r8) ?_ (fun B19 => ?_)
    · intro x ls H locs hI hf
      obtain ⟨z_46, ez⟩ : ∃ w, w = x := ⟨_, rfl⟩
      subst ez
      obtain ⟨hl2, hP2, hD2, hS2⟩ := hI
      replace hl : lv_has ls 9 [(0, .ref (a h0)), (1, .int x0), (2, .long x1), (4, .long x2)] := hl2
      replace hP := hP2
      replace hD := hD2
      replace hS := hS2
      clear hl2 hP2 hD2 hS2
      replace hf := fn_X18_argument_B19_s hf
      refine W.eq (g2 := F0 m 19 ls []) rfl ?_
      refine lv_iconst (v := 1) hx hb dX18_argument_19 (by decide) ?_
      refine lv_goto (tgt := 71) hx hb dX18_argument_20 (by decide) ?_
      exact B71 (z_46, 1) ls H locs ⟨lv_sub hl [0, 1, 2, 3] rfl, hP, hD, hS⟩ hf
    refine lv_if_eq (tgt := 19) hx hb dX18_argument_9 (by decide) (fun c_47 => ?_) (fun c_47 => ?_)
    · skip
      rw [lg_cmp_eq] at c_47
      rw [if_pos c_47] at hf
      exact B19 (z) ls H locs ⟨lv_sub hl [0, 1, 2, 3] rfl, hP, hD, hS⟩ hf
    · skip
      rw [lg_cmp_eq] at c_47
      rw [if_neg c_47] at hf
      refine lv_lload hx hb dX18_argument_12 (lv_at hl 3 rfl) ?_
      refine lv_lconst (v := 1) hx hb dX18_argument_14 (by decide) ?_
      refine W.lcmp hx hb dX18_argument_15 ?_
      refine lv_if_ne (tgt := 23) hx hb dX18_argument_16 (by decide) (fun c_48 => ?_) (fun c_48 => ?_)
      · skip
        rw [lg_cmp_eq] at c_48
        rw [if_neg c_48] at hf
        refine lv_iconst (v := 0) hx hb dX18_argument_23 (by decide) ?_
        refine lv_goto (tgt := 71) hx hb dX18_argument_24 (by decide) ?_
        exact B71 (z, 0) ls H locs ⟨lv_sub hl [0, 1, 2, 3] rfl, hP, hD, hS⟩ hf
      · skip
        rw [lg_cmp_eq] at c_48
        rw [if_pos c_48] at hf
        exact B19 (z) ls H locs ⟨lv_sub hl [0, 1, 2, 3] rfl, hP, hD, hS⟩ hf

theorem md_X11_isArgument_1 : (.constantLong RX11 148 (255) : Cond) ∈ wsX11_isArgument := List.mem_of_getElem? (i := 1) rfl
def fn_X11_isArgument_B25 (F : Nat) (sh : Nat → Nat × Nat) (n : Nat) (x0 : Int32) (x2 : Int64) (z_3 : St) : Option (St × Int32) := if (x0 : Int32) = 1 then if (x2 : Int64) = 0 then some (z_3, 1) else if (x2 : Int64) = 1 then some (z_3, 1) else some (z_3, 0) else if (x0 : Int32) = 2 then if (x2 : Int64) < 0 then some (z_3, 0) else if (255 : Int64) < x2 then some (z_3, 0) else some (z_3, 1) else some (z_3, 1)
theorem fn_X11_isArgument_B25_s {F : Nat} {sh : Nat → Nat × Nat} {n : Nat} {x0 : Int32} {x2 : Int64} {z_3 : St} {y : St × Int32} (h : fn_X11_isArgument_B25 F sh n x0 x2 z_3 = some y) : (if (x0 : Int32) = 1 then if (x2 : Int64) = 0 then some (z_3, 1) else if (x2 : Int64) = 1 then some (z_3, 1) else some (z_3, 0) else if (x0 : Int32) = 2 then if (x2 : Int64) < 0 then some (z_3, 0) else if (255 : Int64) < x2 then some (z_3, 0) else some (z_3, 1) else some (z_3, 1)) = some y := h
def fn_X11_isArgument (F : Nat) (sh : Nat → Nat × Nat) (n : Nat) (z : St) (x0 : Int32) (x1 : Int64) (x2 : Int64) : Option (St × Int32) := if (x0 : Int32) < 1 then some (z, 0) else if (x0 : Int32) ≤ 5 then if (x0 : Int32) = 4 then fn_X11_isArgument_B25 F sh n x0 x2 z  else if (x1 : Int64) = 0 then fn_X11_isArgument_B25 F sh n x0 x2 z  else some (z, 0) else some (z, 0)
set_option maxHeartbeats 4000000 in
set_option maxRecDepth 100000 in
theorem de_X11_isArgument (l : Launch) (dC : Nat → ClassId) (dI : Nat → Nat → Nat) (cy : Nat → ClassId) (a : Nat → Nat) (sh : Nat → Nat × Nat) (n sz : Nat) (F : Nat) (z : St) (x0 : Int32) (x1 : Int64) (x2 : Int64) {z8 : St} {r8 : Int32} (hf : fn_X11_isArgument F sh n z x0 x1 x2 = some (z8, r8)) : Met l yX11_isArgument wsX11_isArgument ({ frames := 0, cells := 0, slots := 0, locals := 0 }) (va_Pc [.int x0, .long x1, .long x2] (fun U => U.heap.size = sz ∧ va_P (dC, dI) vwCl (Wd cy a sh n z) U.heap ∧ va_K (dC, dI) vwCl (TYS cy) U ∧ va_D (fun _ => True) (Wd cy a sh n z) ∧ NK U)) (va_Qi (fun (r9 : Int32) (u : Unit) => r9 = r8) (fun u t => va_P (dC, dI) vwCl (Wd cy a sh n z8) t.heap ∧ va_K (dC, dI) vwCl (TYS cy) t ∧ va_D (va_A (Wd cy a sh n z) sz) (Wd cy a sh n z8)) (va_A (Wd cy a sh n z) sz)) 0 0 (va_A (Wd cy a sh n z) sz) := by
  refine Met.ofW (cc := cX11_isArgument) (maxL := 5) (ret := (some .boolean)) (by decide) rfl ?_
  intro p e s m args below meth c s₁ B hml hv
  obtain ⟨rfl, hsz, hP, hK, hD0, hN⟩ := hv
  have hx := B.exec
  have hb := B.bytes
  have hr := B.returns
  have hts := atoms_spec (ws := wsX11_isArgument) B.pre
  have hown : s.vm.findClass RX11 = some m.cls := findClass_of_methodNamed B.named
  have hlocks := B.notSynchronized
  subst hsz
  have hD := hD0.self (sz := s.heap.size)
  clear hD0
  generalize hAe : va_A (Wd cy a sh n z) s.heap.size = A at hD ⊢
  have hA : ∀ q : Nat, s.heap.size ≤ q → A q := fun q h => by rw [← hAe]; exact Or.inr h
  clear hAe
  have hS : va_S A s.heap s.heap [] := va_S.rf
  have hl := lv_entry ([.int x0, .long x1, .long x2]) (n := 5) (Nat.le_of_ble_eq_true rfl)
  rw [lg_entry_eq]
  generalize (lg_sl ([.int x0, .long x1, .long x2]) ++ List.replicate (5 - (lg_sl ([.int x0, .long x1, .long x2])).length) Slot.unset).toArray = ls at hl ⊢
  replace hl : lv_has ls 5 [(0, .int x0), (1, .long x1), (3, .long x2)] := hl
  unfold fn_X11_isArgument at hf
  refine de_start hS hP (fun H locs hS hP => ?_)
  refine lv_iload_n hx hb dX11_isArgument_0 rfl (lv_at hl 0 rfl) ?_
  refine lv_iconst (v := 1) hx hb dX11_isArgument_1 (by decide) ?_
  refine lv_icmp_lt (tgt := 10) hx hb dX11_isArgument_2 (by decide) (fun c_1 => ?_) (fun c_1 => ?_)
  · skip
    rw [if_pos c_1] at hf
    refine lv_iconst (v := 0) hx hb dX11_isArgument_10 (by decide) ?_
    obtain ⟨h8, h9⟩ := ret_some hf
    rw [h8, h9]
    exact W.zret (v := 0) hx hb hr rfl (fun t ht hW => ⟨⟨0, (), rfl, rfl, by rw [ht]; exact hP, va_K.moved hW.alike hK, hD⟩, hS.F ht⟩) hS.2.2 dX11_isArgument_11
  · skip
    rw [if_neg c_1] at hf
    refine lv_iload_n hx hb dX11_isArgument_5 rfl (lv_at hl 0 rfl) ?_
    refine lv_iconst (v := 5) hx hb dX11_isArgument_6 (by decide) ?_
    refine lv_icmp_le (tgt := 12) hx hb dX11_isArgument_7 (by decide) (fun c_2 => ?_) (fun c_2 => ?_)
    · skip
      rw [if_pos c_2] at hf
      refine lv_iload_n hx hb dX11_isArgument_12 rfl (lv_at hl 0 rfl) ?_
      refine lv_iconst (v := 4) hx hb dX11_isArgument_13 (by decide) ?_
      refine de_cut (h := 25) (fun (x : St) => []) (fun x ls H locs => lv_has ls 5 [(0, .int x0), (3, .long x2)] ∧ va_P (dC, dI) vwCl (Wd cy a sh n x) H ∧ va_D A (Wd cy a sh n x) ∧ va_S A s.heap H locs) (fun x => fn_X11_isArgument_B25 F sh n x0 x2 x) (z8, r8) ?_ (fun B25 => ?_)
      · intro x ls H locs hI hf
        obtain ⟨z_3, ez⟩ : ∃ w, w = x := ⟨_, rfl⟩
        subst ez
        obtain ⟨hl2, hP2, hD2, hS2⟩ := hI
        replace hl : lv_has ls 5 [(0, .int x0), (3, .long x2)] := hl2
        replace hP := hP2
        replace hD := hD2
        replace hS := hS2
        clear hl2 hP2 hD2 hS2
        replace hf := fn_X11_isArgument_B25_s hf
        refine W.eq (g2 := F0 m 25 ls []) rfl ?_
        refine lv_iload_n hx hb dX11_isArgument_25 rfl (lv_at hl 0 rfl) ?_
        refine lv_iconst (v := 1) hx hb dX11_isArgument_26 (by decide) ?_
        refine lv_icmp_ne (tgt := 48) hx hb dX11_isArgument_27 (by decide) (fun c_4 => ?_) (fun c_4 => ?_)
        · skip
          rw [if_neg c_4] at hf
          refine lv_iload_n hx hb dX11_isArgument_48 rfl (lv_at hl 0 rfl) ?_
          refine lv_iconst (v := 2) hx hb dX11_isArgument_49 (by decide) ?_
          refine lv_icmp_ne (tgt := 67) hx hb dX11_isArgument_50 (by decide) (fun c_5 => ?_) (fun c_5 => ?_)
          · skip
            rw [if_neg c_5] at hf
            refine lv_iconst (v := 1) hx hb dX11_isArgument_67 (by decide) ?_
            refine lv_goto (tgt := 72) hx hb dX11_isArgument_68 (by decide) ?_
            obtain ⟨h8, h9⟩ := ret_some hf
            rw [h8, h9]
            exact W.zret (v := 1) hx hb hr rfl (fun t ht hW => ⟨⟨1, (), rfl, rfl, by rw [ht]; exact hP, va_K.moved hW.alike hK, hD⟩, hS.F ht⟩) hS.2.2 dX11_isArgument_72
          · skip
            rw [if_pos c_5] at hf
            refine lv_lload_n hx hb dX11_isArgument_53 rfl (lv_at hl 1 rfl) ?_
            refine lv_lconst (v := 0) hx hb dX11_isArgument_54 (by decide) ?_
            refine W.lcmp hx hb dX11_isArgument_55 ?_
            refine lv_if_lt (tgt := 71) hx hb dX11_isArgument_56 (by decide) (fun c_6 => ?_) (fun c_6 => ?_)
            · skip
              rw [lg_cmp_lt] at c_6
              rw [if_pos c_6] at hf
              refine lv_iconst (v := 0) hx hb dX11_isArgument_71 (by decide) ?_
              obtain ⟨h8, h9⟩ := ret_some hf
              rw [h8, h9]
              exact W.zret (v := 0) hx hb hr rfl (fun t ht hW => ⟨⟨0, (), rfl, rfl, by rw [ht]; exact hP, va_K.moved hW.alike hK, hD⟩, hS.F ht⟩) hS.2.2 dX11_isArgument_72
            · skip
              rw [lg_cmp_lt] at c_6
              rw [if_neg c_6] at hf
              refine lv_lload_n hx hb dX11_isArgument_59 rfl (lv_at hl 1 rfl) ?_
              refine lv_ldc2 hx hb hown (hts _ md_X11_isArgument_1) dX11_isArgument_60 ?_
              refine W.lcmp hx hb dX11_isArgument_63 ?_
              refine lv_if_gt (tgt := 71) hx hb dX11_isArgument_64 (by decide) (fun c_7 => ?_) (fun c_7 => ?_)
              · skip
                rw [lg_cmp_gt] at c_7
                rw [if_pos c_7] at hf
                refine lv_iconst (v := 0) hx hb dX11_isArgument_71 (by decide) ?_
                obtain ⟨h8, h9⟩ := ret_some hf
                rw [h8, h9]
                exact W.zret (v := 0) hx hb hr rfl (fun t ht hW => ⟨⟨0, (), rfl, rfl, by rw [ht]; exact hP, va_K.moved hW.alike hK, hD⟩, hS.F ht⟩) hS.2.2 dX11_isArgument_72
              · skip
                rw [lg_cmp_gt] at c_7
                rw [if_neg c_7] at hf
                refine lv_iconst (v := 1) hx hb dX11_isArgument_67 (by decide) ?_
                refine lv_goto (tgt := 72) hx hb dX11_isArgument_68 (by decide) ?_
                obtain ⟨h8, h9⟩ := ret_some hf
                rw [h8, h9]
                exact W.zret (v := 1) hx hb hr rfl (fun t ht hW => ⟨⟨1, (), rfl, rfl, by rw [ht]; exact hP, va_K.moved hW.alike hK, hD⟩, hS.F ht⟩) hS.2.2 dX11_isArgument_72
        · skip
          rw [if_pos c_4] at hf
          refine lv_lload_n hx hb dX11_isArgument_30 rfl (lv_at hl 1 rfl) ?_
          refine lv_lconst (v := 0) hx hb dX11_isArgument_31 (by decide) ?_
          refine W.lcmp hx hb dX11_isArgument_32 ?_
          refine lv_if_eq (tgt := 42) hx hb dX11_isArgument_33 (by decide) (fun c_8 => ?_) (fun c_8 => ?_)
          · skip
            rw [lg_cmp_eq] at c_8
            rw [if_pos c_8] at hf
            refine lv_iconst (v := 1) hx hb dX11_isArgument_42 (by decide) ?_
            refine lv_goto (tgt := 47) hx hb dX11_isArgument_43 (by decide) ?_
            obtain ⟨h8, h9⟩ := ret_some hf
            rw [h8, h9]
            exact W.zret (v := 1) hx hb hr rfl (fun t ht hW => ⟨⟨1, (), rfl, rfl, by rw [ht]; exact hP, va_K.moved hW.alike hK, hD⟩, hS.F ht⟩) hS.2.2 dX11_isArgument_47
          · skip
            rw [lg_cmp_eq] at c_8
            rw [if_neg c_8] at hf
            refine lv_lload_n hx hb dX11_isArgument_36 rfl (lv_at hl 1 rfl) ?_
            refine lv_lconst (v := 1) hx hb dX11_isArgument_37 (by decide) ?_
            refine W.lcmp hx hb dX11_isArgument_38 ?_
            refine lv_if_ne (tgt := 46) hx hb dX11_isArgument_39 (by decide) (fun c_9 => ?_) (fun c_9 => ?_)
            · skip
              rw [lg_cmp_eq] at c_9
              rw [if_neg c_9] at hf
              refine lv_iconst (v := 0) hx hb dX11_isArgument_46 (by decide) ?_
              obtain ⟨h8, h9⟩ := ret_some hf
              rw [h8, h9]
              exact W.zret (v := 0) hx hb hr rfl (fun t ht hW => ⟨⟨0, (), rfl, rfl, by rw [ht]; exact hP, va_K.moved hW.alike hK, hD⟩, hS.F ht⟩) hS.2.2 dX11_isArgument_47
            · skip
              rw [lg_cmp_eq] at c_9
              rw [if_pos c_9] at hf
              refine lv_iconst (v := 1) hx hb dX11_isArgument_42 (by decide) ?_
              refine lv_goto (tgt := 47) hx hb dX11_isArgument_43 (by decide) ?_
              obtain ⟨h8, h9⟩ := ret_some hf
              rw [h8, h9]
              exact W.zret (v := 1) hx hb hr rfl (fun t ht hW => ⟨⟨1, (), rfl, rfl, by rw [ht]; exact hP, va_K.moved hW.alike hK, hD⟩, hS.F ht⟩) hS.2.2 dX11_isArgument_47
      refine lv_icmp_eq (tgt := 25) hx hb dX11_isArgument_14 (by decide) (fun c_10 => ?_) (fun c_10 => ?_)
      · skip
        rw [if_pos c_10] at hf
        exact B25 (z) ls H locs ⟨lv_sub hl [0, 2] rfl, hP, hD, hS⟩ hf
      · skip
        rw [if_neg c_10] at hf
        refine lv_lload_n hx hb dX11_isArgument_17 rfl (lv_at hl 1 rfl) ?_
        refine lv_lconst (v := 0) hx hb dX11_isArgument_18 (by decide) ?_
        refine W.lcmp hx hb dX11_isArgument_19 ?_
        refine lv_if_eq (tgt := 25) hx hb dX11_isArgument_20 (by decide) (fun c_11 => ?_) (fun c_11 => ?_)
        · skip
          rw [lg_cmp_eq] at c_11
          rw [if_pos c_11] at hf
          exact B25 (z) ls H locs ⟨lv_sub hl [0, 2] rfl, hP, hD, hS⟩ hf
        · skip
          rw [lg_cmp_eq] at c_11
          rw [if_neg c_11] at hf
          refine lv_iconst (v := 0) hx hb dX11_isArgument_23 (by decide) ?_
          obtain ⟨h8, h9⟩ := ret_some hf
          rw [h8, h9]
          exact W.zret (v := 0) hx hb hr rfl (fun t ht hW => ⟨⟨0, (), rfl, rfl, by rw [ht]; exact hP, va_K.moved hW.alike hK, hD⟩, hS.F ht⟩) hS.2.2 dX11_isArgument_24
    · skip
      rw [if_neg c_2] at hf
      refine lv_iconst (v := 0) hx hb dX11_isArgument_10 (by decide) ?_
      obtain ⟨h8, h9⟩ := ret_some hf
      rw [h8, h9]
      exact W.zret (v := 0) hx hb hr rfl (fun t ht hW => ⟨⟨0, (), rfl, rfl, by rw [ht]; exact hP, va_K.moved hW.alike hK, hD⟩, hS.F ht⟩) hS.2.2 dX11_isArgument_11

theorem md_X5_typeAt_1 : (.fieldLink RX5 39 "ResourceLedger$Program" "typeCount" "I" : Cond) ∈ wsX5_typeAt := List.mem_of_getElem? (i := 1) rfl
theorem iwd_X5_typeAt_X5 : ∀ w ∈ wsX50, w ∈ wsX5_typeAt := fun _ h => List.mem_cons_of_mem _ (List.mem_append_right _ h)
theorem md_X5_typeAt_2 : (.fieldLink RX5 9 "ResourceLedger$Program" "types" "[J" : Cond) ∈ wsX5_typeAt := List.mem_of_getElem? (i := 2) rfl
def fn_X5_typeAt (F : Nat) (sh : Nat → Nat × Nat) (n : Nat) (z : St) (h0 : Nat) (x0 : Int32) : Option (St × Int64) := if (x0 : Int32) < 0 then some (z, 0) else grd (okO sh n h0 5) (if (x0 : Int32) < (z.1 h0 4) then lnk (z.2.2 h0 3) (fun k_4 => grd (okA sh n k_4 102 x0) (some (z, (z.2.1 k_4 x0.toNatClampNeg)))) else some (z, 0))
set_option maxHeartbeats 4000000 in
set_option maxRecDepth 100000 in
theorem de_X5_typeAt (l : Launch) (dC : Nat → ClassId) (dI : Nat → Nat → Nat) (cy : Nat → ClassId) (a : Nat → Nat) (sh : Nat → Nat × Nat) (n sz : Nat) (F : Nat) (z : St) (h0 : Nat) (x0 : Int32) {z8 : St} {r8 : Int64} (hf : fn_X5_typeAt F sh n z h0 x0 = some (z8, r8)) : Met l yX5_typeAt wsX5_typeAt ({ frames := 0, cells := 0, slots := 0, locals := 0 }) (va_Pc [.ref (a h0), .int x0] (fun U => U.heap.size = sz ∧ va_P (dC, dI) vwCl (Wd cy a sh n z) U.heap ∧ va_K (dC, dI) vwCl (TYS cy) U ∧ va_D (fun _ => True) (Wd cy a sh n z) ∧ NK U)) (va_Ql (fun (r9 : Int64) (u : Unit) => r9 = r8) (fun u t => va_P (dC, dI) vwCl (Wd cy a sh n z8) t.heap ∧ va_K (dC, dI) vwCl (TYS cy) t ∧ va_D (va_A (Wd cy a sh n z) sz) (Wd cy a sh n z8)) (va_A (Wd cy a sh n z) sz)) 0 0 (va_A (Wd cy a sh n z) sz) := by
  refine Met.ofW (cc := cX5_typeAt) (maxL := 2) (ret := (some .long)) (by decide) rfl ?_
  intro p e s m args below meth c s₁ B hml hv
  obtain ⟨rfl, hsz, hP, hK, hD0, hN⟩ := hv
  have hx := B.exec
  have hb := B.bytes
  have hr := B.returns
  have hts := atoms_spec (ws := wsX5_typeAt) B.pre
  have hown : s.vm.findClass RX5 = some m.cls := findClass_of_methodNamed B.named
  have hlocks := B.notSynchronized
  subst hsz
  have hD := hD0.self (sz := s.heap.size)
  clear hD0
  generalize hAe : va_A (Wd cy a sh n z) s.heap.size = A at hD ⊢
  have hA : ∀ q : Nat, s.heap.size ≤ q → A q := fun q h => by rw [← hAe]; exact Or.inr h
  clear hAe
  have hS : va_S A s.heap s.heap [] := va_S.rf
  have hl := lv_entry ([.ref (a h0), .int x0]) (n := 2) (Nat.le_of_ble_eq_true rfl)
  rw [lg_entry_eq]
  generalize (lg_sl ([.ref (a h0), .int x0]) ++ List.replicate (2 - (lg_sl ([.ref (a h0), .int x0])).length) Slot.unset).toArray = ls at hl ⊢
  replace hl : lv_has ls 2 [(0, .ref (a h0)), (1, .int x0)] := hl
  unfold fn_X5_typeAt at hf
  refine de_start hS hP (fun H locs hS hP => ?_)
  refine lv_iload_n hx hb dX5_typeAt_0 rfl (lv_at hl 1 rfl) ?_
  refine lv_if_lt (tgt := 12) hx hb dX5_typeAt_1 (by decide) (fun c_1 => ?_) (fun c_1 => ?_)
  · skip
    rw [if_pos c_1] at hf
    refine lv_lconst (v := 0) hx hb dX5_typeAt_12 (by decide) ?_
    refine lv_goto (tgt := 22) hx hb dX5_typeAt_13 (by decide) ?_
    obtain ⟨h8, h9⟩ := ret_some hf
    rw [h8, h9]
    exact W.lret (v := 0) hx hb hr (fun t ht hW => ⟨⟨0, (), rfl, rfl, by rw [ht]; exact hP, va_K.moved hW.alike hK, hD⟩, hS.F ht⟩) hS.2.2 dX5_typeAt_22
  · skip
    rw [if_neg c_1] at hf
    refine lv_iload_n hx hb dX5_typeAt_4 rfl (lv_at hl 1 rfl) ?_
    refine lv_aload_n hx hb dX5_typeAt_5 rfl (lv_at hl 0 rfl) ?_
    obtain ⟨g_2, hf⟩ := grd_some hf
    obtain ⟨kg_2, sg_2⟩ := okO_at g_2
    refine va_get (D := (dC, dI)) (ci := 5) (v := .int (z.1 h0 4)) (C := RX5) (T := TX5) (N := 15) hx hb hts iwd_X5_typeAt_X5 hown hK hP h0 (Wd_ob kg_2 sg_2 (by decide)) rfl 4 (by decide) (hts _ md_X5_typeAt_1) (fun _ h9 => h9) (fl_at (t := 0) rfl) dX5_typeAt_6 ?_
    refine lv_icmp_lt (tgt := 16) hx hb dX5_typeAt_9 (by decide) (fun c_3 => ?_) (fun c_3 => ?_)
    · skip
      rw [if_pos c_3] at hf
      refine lv_aload_n hx hb dX5_typeAt_16 rfl (lv_at hl 0 rfl) ?_
      obtain ⟨k_4, ek_4, hf⟩ := lnk_some hf
      refine va_get (D := (dC, dI)) (ci := 5) (v := .ref (a k_4)) (C := RX5) (T := TX5) (N := 15) hx hb hts iwd_X5_typeAt_X5 hown hK hP h0 (Wd_ob kg_2 sg_2 (by decide)) rfl 3 (by decide) (hts _ md_X5_typeAt_2) (fun _ h9 => h9) (fl_q rfl ek_4) dX5_typeAt_17 ?_
      refine lv_iload_n hx hb dX5_typeAt_20 rfl (lv_at hl 1 rfl) ?_
      obtain ⟨g_5, hf⟩ := grd_some hf
      obtain ⟨kg_5, sg_5, ig_5⟩ := okA_at g_5
      refine va_lald hx hb hK hP k_4 2 (Wd_al kg_5 sg_5) rfl ig_5 dX5_typeAt_21 ?_
      obtain ⟨h8, h9⟩ := ret_some hf
      rw [h8, h9]
      exact W.lret (v := (z.2.1 k_4 x0.toNatClampNeg)) hx hb hr (fun t ht hW => ⟨⟨(z.2.1 k_4 x0.toNatClampNeg), (), rfl, rfl, by rw [ht]; exact hP, va_K.moved hW.alike hK, hD⟩, hS.F ht⟩) hS.2.2 dX5_typeAt_22
    · skip
      rw [if_neg c_3] at hf
      refine lv_lconst (v := 0) hx hb dX5_typeAt_12 (by decide) ?_
      refine lv_goto (tgt := 22) hx hb dX5_typeAt_13 (by decide) ?_
      obtain ⟨h8, h9⟩ := ret_some hf
      rw [h8, h9]
      exact W.lret (v := 0) hx hb hr (fun t ht hW => ⟨⟨0, (), rfl, rfl, by rw [ht]; exact hP, va_K.moved hW.alike hK, hD⟩, hS.F ht⟩) hS.2.2 dX5_typeAt_22

theorem md_X5_structureColumn_1 : (.fieldLink RX5 52 "ResourceLedger$Program" "allStructures" "I" : Cond) ∈ wsX5_structureColumn := List.mem_of_getElem? (i := 1) rfl
theorem iwd_X5_structureColumn_X5 : ∀ w ∈ wsX50, w ∈ wsX5_structureColumn := fun _ h => List.mem_cons_of_mem _ (List.mem_append_right _ h)
theorem md_X5_structureColumn_2 : (.fieldLink RX5 19 "ResourceLedger$Program" "structureRows" "[I" : Cond) ∈ wsX5_structureColumn := List.mem_of_getElem? (i := 2) rfl
def fn_X5_structureColumn (F : Nat) (sh : Nat → Nat × Nat) (n : Nat) (z : St) (h0 : Nat) (x0 : Int32) (x1 : Int32) : Option (St × Int32) := if (x0 : Int32) < 0 then some (z, 0) else grd (okO sh n h0 5) (if (x0 : Int32) < (z.1 h0 9) then lnk (z.2.2 h0 7) (fun k_4 => grd (okA sh n k_4 101 ((x0 * 7) + x1)) (some (z, (z.1 k_4 ((x0 * 7) + x1).toNatClampNeg)))) else some (z, 0))
set_option maxHeartbeats 4000000 in
set_option maxRecDepth 100000 in
theorem de_X5_structureColumn (l : Launch) (dC : Nat → ClassId) (dI : Nat → Nat → Nat) (cy : Nat → ClassId) (a : Nat → Nat) (sh : Nat → Nat × Nat) (n sz : Nat) (F : Nat) (z : St) (h0 : Nat) (x0 : Int32) (x1 : Int32) {z8 : St} {r8 : Int32} (hf : fn_X5_structureColumn F sh n z h0 x0 x1 = some (z8, r8)) : Met l yX5_structureColumn wsX5_structureColumn ({ frames := 0, cells := 0, slots := 0, locals := 0 }) (va_Pc [.ref (a h0), .int x0, .int x1] (fun U => U.heap.size = sz ∧ va_P (dC, dI) vwCl (Wd cy a sh n z) U.heap ∧ va_K (dC, dI) vwCl (TYS cy) U ∧ va_D (fun _ => True) (Wd cy a sh n z) ∧ NK U)) (va_Qi (fun (r9 : Int32) (u : Unit) => r9 = r8) (fun u t => va_P (dC, dI) vwCl (Wd cy a sh n z8) t.heap ∧ va_K (dC, dI) vwCl (TYS cy) t ∧ va_D (va_A (Wd cy a sh n z) sz) (Wd cy a sh n z8)) (va_A (Wd cy a sh n z) sz)) 0 0 (va_A (Wd cy a sh n z) sz) := by
  refine Met.ofW (cc := cX5_structureColumn) (maxL := 3) (ret := (some .int)) (by decide) rfl ?_
  intro p e s m args below meth c s₁ B hml hv
  obtain ⟨rfl, hsz, hP, hK, hD0, hN⟩ := hv
  have hx := B.exec
  have hb := B.bytes
  have hr := B.returns
  have hts := atoms_spec (ws := wsX5_structureColumn) B.pre
  have hown : s.vm.findClass RX5 = some m.cls := findClass_of_methodNamed B.named
  have hlocks := B.notSynchronized
  subst hsz
  have hD := hD0.self (sz := s.heap.size)
  clear hD0
  generalize hAe : va_A (Wd cy a sh n z) s.heap.size = A at hD ⊢
  have hA : ∀ q : Nat, s.heap.size ≤ q → A q := fun q h => by rw [← hAe]; exact Or.inr h
  clear hAe
  have hS : va_S A s.heap s.heap [] := va_S.rf
  have hl := lv_entry ([.ref (a h0), .int x0, .int x1]) (n := 3) (Nat.le_of_ble_eq_true rfl)
  rw [lg_entry_eq]
  generalize (lg_sl ([.ref (a h0), .int x0, .int x1]) ++ List.replicate (3 - (lg_sl ([.ref (a h0), .int x0, .int x1])).length) Slot.unset).toArray = ls at hl ⊢
  replace hl : lv_has ls 3 [(0, .ref (a h0)), (1, .int x0), (2, .int x1)] := hl
  unfold fn_X5_structureColumn at hf
  refine de_start hS hP (fun H locs hS hP => ?_)
  refine lv_iload_n hx hb dX5_structureColumn_0 rfl (lv_at hl 1 rfl) ?_
  refine lv_if_lt (tgt := 12) hx hb dX5_structureColumn_1 (by decide) (fun c_1 => ?_) (fun c_1 => ?_)
  · skip
    rw [if_pos c_1] at hf
    refine lv_iconst (v := 0) hx hb dX5_structureColumn_12 (by decide) ?_
    refine lv_goto (tgt := 27) hx hb dX5_structureColumn_13 (by decide) ?_
    obtain ⟨h8, h9⟩ := ret_some hf
    rw [h8, h9]
    exact W.iret (v := 0) hx hb hr (fun t ht hW => ⟨⟨0, (), rfl, rfl, by rw [ht]; exact hP, va_K.moved hW.alike hK, hD⟩, hS.F ht⟩) hS.2.2 dX5_structureColumn_27
  · skip
    rw [if_neg c_1] at hf
    refine lv_iload_n hx hb dX5_structureColumn_4 rfl (lv_at hl 1 rfl) ?_
    refine lv_aload_n hx hb dX5_structureColumn_5 rfl (lv_at hl 0 rfl) ?_
    obtain ⟨g_2, hf⟩ := grd_some hf
    obtain ⟨kg_2, sg_2⟩ := okO_at g_2
    refine va_get (D := (dC, dI)) (ci := 5) (v := .int (z.1 h0 9)) (C := RX5) (T := TX5) (N := 15) hx hb hts iwd_X5_structureColumn_X5 hown hK hP h0 (Wd_ob kg_2 sg_2 (by decide)) rfl 9 (by decide) (hts _ md_X5_structureColumn_1) (fun _ h9 => h9) (fl_at (t := 0) rfl) dX5_structureColumn_6 ?_
    refine lv_icmp_lt (tgt := 16) hx hb dX5_structureColumn_9 (by decide) (fun c_3 => ?_) (fun c_3 => ?_)
    · skip
      rw [if_pos c_3] at hf
      refine lv_aload_n hx hb dX5_structureColumn_16 rfl (lv_at hl 0 rfl) ?_
      obtain ⟨k_4, ek_4, hf⟩ := lnk_some hf
      refine va_get (D := (dC, dI)) (ci := 5) (v := .ref (a k_4)) (C := RX5) (T := TX5) (N := 15) hx hb hts iwd_X5_structureColumn_X5 hown hK hP h0 (Wd_ob kg_2 sg_2 (by decide)) rfl 7 (by decide) (hts _ md_X5_structureColumn_2) (fun _ h9 => h9) (fl_q rfl ek_4) dX5_structureColumn_17 ?_
      refine lv_iload_n hx hb dX5_structureColumn_20 rfl (lv_at hl 1 rfl) ?_
      refine lv_bipush (v := 7) hx hb dX5_structureColumn_21 (by decide) ?_
      refine lv_imul hx hb dX5_structureColumn_23 ?_
      refine lv_iload_n hx hb dX5_structureColumn_24 rfl (lv_at hl 2 rfl) ?_
      refine lv_iadd hx hb dX5_structureColumn_25 ?_
      obtain ⟨g_5, hf⟩ := grd_some hf
      obtain ⟨kg_5, sg_5, ig_5⟩ := okA_at g_5
      refine va_iald hx hb hK hP k_4 1 (Wd_ai kg_5 sg_5) rfl ig_5 dX5_structureColumn_26 ?_
      obtain ⟨h8, h9⟩ := ret_some hf
      rw [h8, h9]
      exact W.iret (v := (z.1 k_4 ((x0 * 7) + x1).toNatClampNeg)) hx hb hr (fun t ht hW => ⟨⟨(z.1 k_4 ((x0 * 7) + x1).toNatClampNeg), (), rfl, rfl, by rw [ht]; exact hP, va_K.moved hW.alike hK, hD⟩, hS.F ht⟩) hS.2.2 dX5_structureColumn_27
    · skip
      rw [if_neg c_3] at hf
      refine lv_iconst (v := 0) hx hb dX5_structureColumn_12 (by decide) ?_
      refine lv_goto (tgt := 27) hx hb dX5_structureColumn_13 (by decide) ?_
      obtain ⟨h8, h9⟩ := ret_some hf
      rw [h8, h9]
      exact W.iret (v := 0) hx hb hr (fun t ht hW => ⟨⟨0, (), rfl, rfl, by rw [ht]; exact hP, va_K.moved hW.alike hK, hD⟩, hS.F ht⟩) hS.2.2 dX5_structureColumn_27

theorem md_X5_setStructure_1 : (.fieldLink RX5 19 "ResourceLedger$Program" "structureRows" "[I" : Cond) ∈ wsX5_setStructure := List.mem_of_getElem? (i := 1) rfl
theorem iwd_X5_setStructure_X5 : ∀ w ∈ wsX50, w ∈ wsX5_setStructure := fun _ h => List.mem_cons_of_mem _ (List.mem_append_right _ h)
def fn_X5_setStructure (F : Nat) (sh : Nat → Nat × Nat) (n : Nat) (z : St) (h0 : Nat) (x0 : Int32) (x1 : Int32) (x2 : Int32) : Option (St × Unit) := if (x0 : Int32) < 0 then some (z, ()) else if (64 : Int32) ≤ x0 then some (z, ()) else grd (okO sh n h0 5) (lnk (z.2.2 h0 7) (fun k_4 => grd (okA sh n k_4 101 ((x0 * 7) + x1)) (lt_ (si z k_4 ((x0 * 7) + x1).toNatClampNeg x2) (fun z_7 => some (z_7, ())))))
set_option maxHeartbeats 4000000 in
set_option maxRecDepth 100000 in
theorem de_X5_setStructure (l : Launch) (dC : Nat → ClassId) (dI : Nat → Nat → Nat) (cy : Nat → ClassId) (a : Nat → Nat) (sh : Nat → Nat × Nat) (n sz : Nat) (F : Nat) (z : St) (h0 : Nat) (x0 : Int32) (x1 : Int32) (x2 : Int32) {z8 : St} {r8 : Unit} (hf : fn_X5_setStructure F sh n z h0 x0 x1 x2 = some (z8, r8)) : Met l yX5_setStructure wsX5_setStructure ({ frames := 0, cells := 0, slots := 0, locals := 0 }) (va_Pc [.ref (a h0), .int x0, .int x1, .int x2] (fun U => U.heap.size = sz ∧ va_P (dC, dI) vwCl (Wd cy a sh n z) U.heap ∧ va_K (dC, dI) vwCl (TYS cy) U ∧ va_D (fun _ => True) (Wd cy a sh n z) ∧ NK U)) (va_Qv (fun u : Unit => True) (fun u t => va_P (dC, dI) vwCl (Wd cy a sh n z8) t.heap ∧ va_K (dC, dI) vwCl (TYS cy) t ∧ va_D (va_A (Wd cy a sh n z) sz) (Wd cy a sh n z8)) (va_A (Wd cy a sh n z) sz)) 0 0 (va_A (Wd cy a sh n z) sz) := by
  refine Met.ofW (cc := cX5_setStructure) (maxL := 4) (ret := none) (by decide) rfl ?_
  intro p e s m args below meth c s₁ B hml hv
  obtain ⟨rfl, hsz, hP, hK, hD0, hN⟩ := hv
  have hx := B.exec
  have hb := B.bytes
  have hr := B.returns
  have hts := atoms_spec (ws := wsX5_setStructure) B.pre
  have hown : s.vm.findClass RX5 = some m.cls := findClass_of_methodNamed B.named
  have hlocks := B.notSynchronized
  subst hsz
  have hD := hD0.self (sz := s.heap.size)
  clear hD0
  generalize hAe : va_A (Wd cy a sh n z) s.heap.size = A at hD ⊢
  have hA : ∀ q : Nat, s.heap.size ≤ q → A q := fun q h => by rw [← hAe]; exact Or.inr h
  clear hAe
  have hS : va_S A s.heap s.heap [] := va_S.rf
  have hl := lv_entry ([.ref (a h0), .int x0, .int x1, .int x2]) (n := 4) (Nat.le_of_ble_eq_true rfl)
  rw [lg_entry_eq]
  generalize (lg_sl ([.ref (a h0), .int x0, .int x1, .int x2]) ++ List.replicate (4 - (lg_sl ([.ref (a h0), .int x0, .int x1, .int x2])).length) Slot.unset).toArray = ls at hl ⊢
  replace hl : lv_has ls 4 [(0, .ref (a h0)), (1, .int x0), (2, .int x1), (3, .int x2)] := hl
  unfold fn_X5_setStructure at hf
  refine de_start hS hP (fun H locs hS hP => ?_)
  refine lv_iload_n hx hb dX5_setStructure_0 rfl (lv_at hl 1 rfl) ?_
  refine lv_if_lt (tgt := 22) hx hb dX5_setStructure_1 (by decide) (fun c_1 => ?_) (fun c_1 => ?_)
  · skip
    rw [if_pos c_1] at hf
    obtain ⟨h8, h9⟩ := ret_some hf
    rw [h8]
    exact W.vret hx hb hr (fun t ht hW => ⟨⟨(), rfl, trivial, by rw [ht]; exact hP, va_K.moved hW.alike hK, hD⟩, hS.F ht⟩) hS.2.2 dX5_setStructure_22
  · skip
    rw [if_neg c_1] at hf
    refine lv_iload_n hx hb dX5_setStructure_4 rfl (lv_at hl 1 rfl) ?_
    refine lv_bipush (v := 64) hx hb dX5_setStructure_5 (by decide) ?_
    refine lv_icmp_ge (tgt := 22) hx hb dX5_setStructure_7 (by decide) (fun c_2 => ?_) (fun c_2 => ?_)
    · skip
      rw [if_pos c_2] at hf
      obtain ⟨h8, h9⟩ := ret_some hf
      rw [h8]
      exact W.vret hx hb hr (fun t ht hW => ⟨⟨(), rfl, trivial, by rw [ht]; exact hP, va_K.moved hW.alike hK, hD⟩, hS.F ht⟩) hS.2.2 dX5_setStructure_22
    · skip
      rw [if_neg c_2] at hf
      refine lv_aload_n hx hb dX5_setStructure_10 rfl (lv_at hl 0 rfl) ?_
      obtain ⟨g_3, hf⟩ := grd_some hf
      obtain ⟨kg_3, sg_3⟩ := okO_at g_3
      obtain ⟨k_4, ek_4, hf⟩ := lnk_some hf
      refine va_get (D := (dC, dI)) (ci := 5) (v := .ref (a k_4)) (C := RX5) (T := TX5) (N := 15) hx hb hts iwd_X5_setStructure_X5 hown hK hP h0 (Wd_ob kg_3 sg_3 (by decide)) rfl 7 (by decide) (hts _ md_X5_setStructure_1) (fun _ h9 => h9) (fl_q rfl ek_4) dX5_setStructure_11 ?_
      refine lv_iload_n hx hb dX5_setStructure_14 rfl (lv_at hl 1 rfl) ?_
      refine lv_bipush (v := 7) hx hb dX5_setStructure_15 (by decide) ?_
      refine lv_imul hx hb dX5_setStructure_17 ?_
      refine lv_iload_n hx hb dX5_setStructure_18 rfl (lv_at hl 2 rfl) ?_
      refine lv_iadd hx hb dX5_setStructure_19 ?_
      refine lv_iload_n hx hb dX5_setStructure_20 rfl (lv_at hl 3 rfl) ?_
      obtain ⟨g_5, hf⟩ := grd_some hf
      obtain ⟨kg_5, sg_5, ig_5⟩ := okA_at g_5
      refine va_iast hx hb hK hP hD hS k_4 1 (Wd_ai kg_5 sg_5) rfl ig_5 dX5_setStructure_21 (fun H_6 locs hP2 hD2 hS2 => ?_)
      rw [Wd_ti sg_5] at hP2 hD2
      obtain ⟨z_7, ez_7⟩ : ∃ w, w = si z k_4 ((x0 * 7) + x1).toNatClampNeg x2 := ⟨_, rfl⟩
      rw [← ez_7] at hP2 hD2
      replace hf := lt_at ez_7 hf
      clear ez_7
      replace hP := hP2
      replace hD := hD2
      replace hS := hS2
      clear hP2 hD2 hS2
      obtain ⟨h8, h9⟩ := ret_some hf
      rw [h8]
      exact W.vret hx hb hr (fun t ht hW => ⟨⟨(), rfl, trivial, by rw [ht]; exact hP, va_K.moved hW.alike hK, hD⟩, hS.F ht⟩) hS.2.2 dX5_setStructure_22

theorem md_X5_setFunction_1 : (.fieldLink RX5 22 "ResourceLedger$Program" "functionRows" "[I" : Cond) ∈ wsX5_setFunction := List.mem_of_getElem? (i := 1) rfl
theorem iwd_X5_setFunction_X5 : ∀ w ∈ wsX50, w ∈ wsX5_setFunction := fun _ h => List.mem_cons_of_mem _ (List.mem_append_right _ h)
def fn_X5_setFunction (F : Nat) (sh : Nat → Nat × Nat) (n : Nat) (z : St) (h0 : Nat) (x0 : Int32) (x1 : Int32) (x2 : Int32) : Option (St × Unit) := if (x0 : Int32) < 0 then some (z, ()) else if (96 : Int32) ≤ x0 then some (z, ()) else grd (okO sh n h0 5) (lnk (z.2.2 h0 10) (fun k_4 => grd (okA sh n k_4 101 ((x0 * 9) + x1)) (lt_ (si z k_4 ((x0 * 9) + x1).toNatClampNeg x2) (fun z_7 => some (z_7, ())))))
set_option maxHeartbeats 4000000 in
set_option maxRecDepth 100000 in
theorem de_X5_setFunction (l : Launch) (dC : Nat → ClassId) (dI : Nat → Nat → Nat) (cy : Nat → ClassId) (a : Nat → Nat) (sh : Nat → Nat × Nat) (n sz : Nat) (F : Nat) (z : St) (h0 : Nat) (x0 : Int32) (x1 : Int32) (x2 : Int32) {z8 : St} {r8 : Unit} (hf : fn_X5_setFunction F sh n z h0 x0 x1 x2 = some (z8, r8)) : Met l yX5_setFunction wsX5_setFunction ({ frames := 0, cells := 0, slots := 0, locals := 0 }) (va_Pc [.ref (a h0), .int x0, .int x1, .int x2] (fun U => U.heap.size = sz ∧ va_P (dC, dI) vwCl (Wd cy a sh n z) U.heap ∧ va_K (dC, dI) vwCl (TYS cy) U ∧ va_D (fun _ => True) (Wd cy a sh n z) ∧ NK U)) (va_Qv (fun u : Unit => True) (fun u t => va_P (dC, dI) vwCl (Wd cy a sh n z8) t.heap ∧ va_K (dC, dI) vwCl (TYS cy) t ∧ va_D (va_A (Wd cy a sh n z) sz) (Wd cy a sh n z8)) (va_A (Wd cy a sh n z) sz)) 0 0 (va_A (Wd cy a sh n z) sz) := by
  refine Met.ofW (cc := cX5_setFunction) (maxL := 4) (ret := none) (by decide) rfl ?_
  intro p e s m args below meth c s₁ B hml hv
  obtain ⟨rfl, hsz, hP, hK, hD0, hN⟩ := hv
  have hx := B.exec
  have hb := B.bytes
  have hr := B.returns
  have hts := atoms_spec (ws := wsX5_setFunction) B.pre
  have hown : s.vm.findClass RX5 = some m.cls := findClass_of_methodNamed B.named
  have hlocks := B.notSynchronized
  subst hsz
  have hD := hD0.self (sz := s.heap.size)
  clear hD0
  generalize hAe : va_A (Wd cy a sh n z) s.heap.size = A at hD ⊢
  have hA : ∀ q : Nat, s.heap.size ≤ q → A q := fun q h => by rw [← hAe]; exact Or.inr h
  clear hAe
  have hS : va_S A s.heap s.heap [] := va_S.rf
  have hl := lv_entry ([.ref (a h0), .int x0, .int x1, .int x2]) (n := 4) (Nat.le_of_ble_eq_true rfl)
  rw [lg_entry_eq]
  generalize (lg_sl ([.ref (a h0), .int x0, .int x1, .int x2]) ++ List.replicate (4 - (lg_sl ([.ref (a h0), .int x0, .int x1, .int x2])).length) Slot.unset).toArray = ls at hl ⊢
  replace hl : lv_has ls 4 [(0, .ref (a h0)), (1, .int x0), (2, .int x1), (3, .int x2)] := hl
  unfold fn_X5_setFunction at hf
  refine de_start hS hP (fun H locs hS hP => ?_)
  refine lv_iload_n hx hb dX5_setFunction_0 rfl (lv_at hl 1 rfl) ?_
  refine lv_if_lt (tgt := 22) hx hb dX5_setFunction_1 (by decide) (fun c_1 => ?_) (fun c_1 => ?_)
  · skip
    rw [if_pos c_1] at hf
    obtain ⟨h8, h9⟩ := ret_some hf
    rw [h8]
    exact W.vret hx hb hr (fun t ht hW => ⟨⟨(), rfl, trivial, by rw [ht]; exact hP, va_K.moved hW.alike hK, hD⟩, hS.F ht⟩) hS.2.2 dX5_setFunction_22
  · skip
    rw [if_neg c_1] at hf
    refine lv_iload_n hx hb dX5_setFunction_4 rfl (lv_at hl 1 rfl) ?_
    refine lv_bipush (v := 96) hx hb dX5_setFunction_5 (by decide) ?_
    refine lv_icmp_ge (tgt := 22) hx hb dX5_setFunction_7 (by decide) (fun c_2 => ?_) (fun c_2 => ?_)
    · skip
      rw [if_pos c_2] at hf
      obtain ⟨h8, h9⟩ := ret_some hf
      rw [h8]
      exact W.vret hx hb hr (fun t ht hW => ⟨⟨(), rfl, trivial, by rw [ht]; exact hP, va_K.moved hW.alike hK, hD⟩, hS.F ht⟩) hS.2.2 dX5_setFunction_22
    · skip
      rw [if_neg c_2] at hf
      refine lv_aload_n hx hb dX5_setFunction_10 rfl (lv_at hl 0 rfl) ?_
      obtain ⟨g_3, hf⟩ := grd_some hf
      obtain ⟨kg_3, sg_3⟩ := okO_at g_3
      obtain ⟨k_4, ek_4, hf⟩ := lnk_some hf
      refine va_get (D := (dC, dI)) (ci := 5) (v := .ref (a k_4)) (C := RX5) (T := TX5) (N := 15) hx hb hts iwd_X5_setFunction_X5 hown hK hP h0 (Wd_ob kg_3 sg_3 (by decide)) rfl 10 (by decide) (hts _ md_X5_setFunction_1) (fun _ h9 => h9) (fl_q rfl ek_4) dX5_setFunction_11 ?_
      refine lv_iload_n hx hb dX5_setFunction_14 rfl (lv_at hl 1 rfl) ?_
      refine lv_bipush (v := 9) hx hb dX5_setFunction_15 (by decide) ?_
      refine lv_imul hx hb dX5_setFunction_17 ?_
      refine lv_iload_n hx hb dX5_setFunction_18 rfl (lv_at hl 2 rfl) ?_
      refine lv_iadd hx hb dX5_setFunction_19 ?_
      refine lv_iload_n hx hb dX5_setFunction_20 rfl (lv_at hl 3 rfl) ?_
      obtain ⟨g_5, hf⟩ := grd_some hf
      obtain ⟨kg_5, sg_5, ig_5⟩ := okA_at g_5
      refine va_iast hx hb hK hP hD hS k_4 1 (Wd_ai kg_5 sg_5) rfl ig_5 dX5_setFunction_21 (fun H_6 locs hP2 hD2 hS2 => ?_)
      rw [Wd_ti sg_5] at hP2 hD2
      obtain ⟨z_7, ez_7⟩ : ∃ w, w = si z k_4 ((x0 * 9) + x1).toNatClampNeg x2 := ⟨_, rfl⟩
      rw [← ez_7] at hP2 hD2
      replace hf := lt_at ez_7 hf
      clear ez_7
      replace hP := hP2
      replace hD := hD2
      replace hS := hS2
      clear hP2 hD2 hS2
      obtain ⟨h8, h9⟩ := ret_some hf
      rw [h8]
      exact W.vret hx hb hr (fun t ht hW => ⟨⟨(), rfl, trivial, by rw [ht]; exact hP, va_K.moved hW.alike hK, hD⟩, hS.F ht⟩) hS.2.2 dX5_setFunction_22

def fn_X5_fieldCount (F : Nat) (sh : Nat → Nat × Nat) (n : Nat) (z : St) (h0 : Nat) (x0 : Int32) : Option (St × Int32) := grd (okO sh n h0 5) (cal (fn_X5_structureColumn F sh n z h0 x0 3) (fun z_1 r_2 => some (z_1, r_2)))
set_option maxHeartbeats 4000000 in
set_option maxRecDepth 100000 in
theorem de_X5_fieldCount (l : Launch) (dC : Nat → ClassId) (dI : Nat → Nat → Nat) (cy : Nat → ClassId) (a : Nat → Nat) (sh : Nat → Nat × Nat) (n sz : Nat) (F : Nat) (z : St) (h0 : Nat) (x0 : Int32) {z8 : St} {r8 : Int32} (hf : fn_X5_fieldCount F sh n z h0 x0 = some (z8, r8)) : Met l yX5_fieldCount wsX5_fieldCount ({ frames := 1, cells := 0, slots := 0, locals := 22 }) (va_Pc [.ref (a h0), .int x0] (fun U => U.heap.size = sz ∧ va_P (dC, dI) vwCl (Wd cy a sh n z) U.heap ∧ va_K (dC, dI) vwCl (TYS cy) U ∧ va_D (fun _ => True) (Wd cy a sh n z) ∧ NK U)) (va_Qi (fun (r9 : Int32) (u : Unit) => r9 = r8) (fun u t => va_P (dC, dI) vwCl (Wd cy a sh n z8) t.heap ∧ va_K (dC, dI) vwCl (TYS cy) t ∧ va_D (va_A (Wd cy a sh n z) sz) (Wd cy a sh n z8)) (va_A (Wd cy a sh n z) sz)) 0 0 (va_A (Wd cy a sh n z) sz) := by
  refine Met.ofW (cc := cX5_fieldCount) (maxL := 2) (ret := (some .int)) (by decide) rfl ?_
  intro p e s m args below meth c s₁ B hml hv
  obtain ⟨rfl, hsz, hP, hK, hD0, hN⟩ := hv
  have hx := B.exec
  have hb := B.bytes
  have hr := B.returns
  have hts := atoms_spec (ws := wsX5_fieldCount) B.pre
  have hown : s.vm.findClass RX5 = some m.cls := findClass_of_methodNamed B.named
  have hlocks := B.notSynchronized
  subst hsz
  have hD := hD0.self (sz := s.heap.size)
  clear hD0
  generalize hAe : va_A (Wd cy a sh n z) s.heap.size = A at hD ⊢
  have hA : ∀ q : Nat, s.heap.size ≤ q → A q := fun q h => by rw [← hAe]; exact Or.inr h
  clear hAe
  have hS : va_S A s.heap s.heap [] := va_S.rf
  have hl := lv_entry ([.ref (a h0), .int x0]) (n := 2) (Nat.le_of_ble_eq_true rfl)
  rw [lg_entry_eq]
  generalize (lg_sl ([.ref (a h0), .int x0]) ++ List.replicate (2 - (lg_sl ([.ref (a h0), .int x0])).length) Slot.unset).toArray = ls at hl ⊢
  replace hl : lv_has ls 2 [(0, .ref (a h0)), (1, .int x0)] := hl
  unfold fn_X5_fieldCount at hf
  refine de_start hS hP (fun H locs hS hP => ?_)
  refine lv_aload_n hx hb dX5_fieldCount_0 rfl (lv_at hl 0 rfl) ?_
  refine lv_iload_n hx hb dX5_fieldCount_1 rfl (lv_at hl 1 rfl) ?_
  refine lv_iconst (v := 3) hx hb dX5_fieldCount_2 (by decide) ?_
  obtain ⟨g_3, hf⟩ := grd_some hf
  obtain ⟨kg_3, sg_3⟩ := okO_at g_3
  obtain ⟨z_1, r_2, hfc, hf⟩ := cal_some hf
  have hFc := de_free hD hS hA
  refine va_calli (va_runV (As := [.int x0, .int 3]) (rest := []) ⟨hx, hb, hml, hown, hts⟩ (de_X5_structureColumn l dC dI cy a sh n H.size F z h0 x0 3 hfc) (cwV 2 hts gX5_fieldCount_X5_structureColumn rfl rfl rfl (by decide +kernel) ⟨Nat.le_of_ble_eq_true rfl, Nat.le_of_ble_eq_true rfl⟩) ⟨fun a U g mk q => by obtain ⟨q0, q1, qP, qK, qD, qN⟩ := q; exact ⟨q0, q1, qP, va_K.moved (u := U) (U := U.calling g mk a) (Vm.Alike.refl U.vm) qK, qD, qN.same rfl⟩, va_recv hK hP (ci := 5) (q0 := h0) rfl (Wd_ob kg_3 sg_3 (by decide)), fun U hU hW => ⟨rfl, by rw [hU], by rw [hU]; exact hP, va_K.moved hW.alike hK, hD.weaken (fun _ _ _ _ => trivial), hN.warm hW⟩⟩ rfl rfl hl.1 rfl (lv_room (Nat.le_of_ble_eq_true rfl)) dX5_fieldCount_3 ⟨Nat.le_of_ble_eq_true rfl, Nat.le_of_ble_eq_true rfl⟩) hS (fun q _ h => hFc q h) hFc (fun rr u t H_4 locs ht hvm hw hB hz1 hk1 hS2 => ?_)
  rw [hw]
  clear hw
  obtain ⟨hP1, -, hD1⟩ := hB
  rw [ht] at hP1
  replace hD := hD1.weaken (fun _ _ _ h => hFc _ h)
  replace hP := hP1
  replace hS := hS2
  clear hP1 hD1 hS2 hFc hfc hz1 hk1 hvm ht
  obtain ⟨h8, h9⟩ := ret_some hf
  rw [h8, h9]
  exact W.iret (v := r_2) hx hb hr (fun t ht hW => ⟨⟨r_2, (), rfl, rfl, by rw [ht]; exact hP, va_K.moved hW.alike hK, hD⟩, hS.F ht⟩) hS.2.2 dX5_fieldCount_6

def fn_X5_fieldType (F : Nat) (sh : Nat → Nat × Nat) (n : Nat) (z : St) (h0 : Nat) (x0 : Int32) (x1 : Int32) : Option (St × Int64) := grd (okO sh n h0 5) (cal (fn_X5_structureColumn F sh n z h0 x0 2) (fun z_1 r_2 => cal (fn_X5_typeAt F sh n z_1 h0 (r_2 + x1)) (fun z_5 r_6 => some (z_5, r_6))))
set_option maxHeartbeats 4000000 in
set_option maxRecDepth 100000 in
theorem de_X5_fieldType (l : Launch) (dC : Nat → ClassId) (dI : Nat → Nat → Nat) (cy : Nat → ClassId) (a : Nat → Nat) (sh : Nat → Nat × Nat) (n sz : Nat) (F : Nat) (z : St) (h0 : Nat) (x0 : Int32) (x1 : Int32) {z8 : St} {r8 : Int64} (hf : fn_X5_fieldType F sh n z h0 x0 x1 = some (z8, r8)) : Met l yX5_fieldType wsX5_fieldType ({ frames := 1, cells := 0, slots := 0, locals := 22 }) (va_Pc [.ref (a h0), .int x0, .int x1] (fun U => U.heap.size = sz ∧ va_P (dC, dI) vwCl (Wd cy a sh n z) U.heap ∧ va_K (dC, dI) vwCl (TYS cy) U ∧ va_D (fun _ => True) (Wd cy a sh n z) ∧ NK U)) (va_Ql (fun (r9 : Int64) (u : Unit) => r9 = r8) (fun u t => va_P (dC, dI) vwCl (Wd cy a sh n z8) t.heap ∧ va_K (dC, dI) vwCl (TYS cy) t ∧ va_D (va_A (Wd cy a sh n z) sz) (Wd cy a sh n z8)) (va_A (Wd cy a sh n z) sz)) 0 0 (va_A (Wd cy a sh n z) sz) := by
  refine Met.ofW (cc := cX5_fieldType) (maxL := 3) (ret := (some .long)) (by decide) rfl ?_
  intro p e s m args below meth c s₁ B hml hv
  obtain ⟨rfl, hsz, hP, hK, hD0, hN⟩ := hv
  have hx := B.exec
  have hb := B.bytes
  have hr := B.returns
  have hts := atoms_spec (ws := wsX5_fieldType) B.pre
  have hown : s.vm.findClass RX5 = some m.cls := findClass_of_methodNamed B.named
  have hlocks := B.notSynchronized
  subst hsz
  have hD := hD0.self (sz := s.heap.size)
  clear hD0
  generalize hAe : va_A (Wd cy a sh n z) s.heap.size = A at hD ⊢
  have hA : ∀ q : Nat, s.heap.size ≤ q → A q := fun q h => by rw [← hAe]; exact Or.inr h
  clear hAe
  have hS : va_S A s.heap s.heap [] := va_S.rf
  have hl := lv_entry ([.ref (a h0), .int x0, .int x1]) (n := 3) (Nat.le_of_ble_eq_true rfl)
  rw [lg_entry_eq]
  generalize (lg_sl ([.ref (a h0), .int x0, .int x1]) ++ List.replicate (3 - (lg_sl ([.ref (a h0), .int x0, .int x1])).length) Slot.unset).toArray = ls at hl ⊢
  replace hl : lv_has ls 3 [(0, .ref (a h0)), (1, .int x0), (2, .int x1)] := hl
  unfold fn_X5_fieldType at hf
  refine de_start hS hP (fun H locs hS hP => ?_)
  refine lv_aload_n hx hb dX5_fieldType_0 rfl (lv_at hl 0 rfl) ?_
  refine lv_aload_n hx hb dX5_fieldType_1 rfl (lv_at hl 0 rfl) ?_
  refine lv_iload_n hx hb dX5_fieldType_2 rfl (lv_at hl 1 rfl) ?_
  refine lv_iconst (v := 2) hx hb dX5_fieldType_3 (by decide) ?_
  obtain ⟨g_3, hf⟩ := grd_some hf
  obtain ⟨kg_3, sg_3⟩ := okO_at g_3
  obtain ⟨z_1, r_2, hfc, hf⟩ := cal_some hf
  have hFc := de_free hD hS hA
  refine va_calli (va_runV (As := [.int x0, .int 2]) (rest := [.ref (a h0)]) ⟨hx, hb, hml, hown, hts⟩ (de_X5_structureColumn l dC dI cy a sh n H.size F z h0 x0 2 hfc) (cwV 2 hts gX5_fieldType_X5_structureColumn rfl rfl rfl (by decide +kernel) ⟨Nat.le_of_ble_eq_true rfl, Nat.le_of_ble_eq_true rfl⟩) ⟨fun a U g mk q => by obtain ⟨q0, q1, qP, qK, qD, qN⟩ := q; exact ⟨q0, q1, qP, va_K.moved (u := U) (U := U.calling g mk a) (Vm.Alike.refl U.vm) qK, qD, qN.same rfl⟩, va_recv hK hP (ci := 5) (q0 := h0) rfl (Wd_ob kg_3 sg_3 (by decide)), fun U hU hW => ⟨rfl, by rw [hU], by rw [hU]; exact hP, va_K.moved hW.alike hK, hD.weaken (fun _ _ _ _ => trivial), hN.warm hW⟩⟩ rfl rfl hl.1 rfl (lv_room (Nat.le_of_ble_eq_true rfl)) dX5_fieldType_4 ⟨Nat.le_of_ble_eq_true rfl, Nat.le_of_ble_eq_true rfl⟩) hS (fun q _ h => hFc q h) hFc (fun rr u t H_4 locs ht hvm hw hB hz1 hk1 hS2 => ?_)
  rw [hw]
  clear hw
  obtain ⟨hP1, -, hD1⟩ := hB
  rw [ht] at hP1
  replace hD := hD1.weaken (fun _ _ _ h => hFc _ h)
  replace hP := hP1
  replace hS := hS2
  clear hP1 hD1 hS2 hFc hfc hz1 hk1 hvm ht
  refine lv_iload_n hx hb dX5_fieldType_7 rfl (lv_at hl 2 rfl) ?_
  refine lv_iadd hx hb dX5_fieldType_8 ?_
  obtain ⟨z_5, r_6, hfc, hf⟩ := cal_some hf
  have hFc := de_free hD hS hA
  refine va_calll (va_runV (As := [.int (r_2 + x1)]) (rest := []) ⟨hx, hb, hml, hown, hts⟩ (de_X5_typeAt l dC dI cy a sh n H_4.size F z_1 h0 (r_2 + x1) hfc) (cwV 1 hts gX5_fieldType_X5_typeAt rfl rfl rfl (by decide +kernel) ⟨Nat.le_of_ble_eq_true rfl, Nat.le_of_ble_eq_true rfl⟩) ⟨fun a U g mk q => by obtain ⟨q0, q1, qP, qK, qD, qN⟩ := q; exact ⟨q0, q1, qP, va_K.moved (u := U) (U := U.calling g mk a) (Vm.Alike.refl U.vm) qK, qD, qN.same rfl⟩, va_recv hK hP (ci := 5) (q0 := h0) rfl (Wd_ob kg_3 sg_3 (by decide)), fun U hU hW => ⟨rfl, by rw [hU], by rw [hU]; exact hP, va_K.moved hW.alike hK, hD.weaken (fun _ _ _ _ => trivial), hN.warm hW⟩⟩ rfl rfl hl.1 rfl (lv_room (Nat.le_of_ble_eq_true rfl)) dX5_fieldType_9 ⟨Nat.le_of_ble_eq_true rfl, Nat.le_of_ble_eq_true rfl⟩) hS (fun q _ h => hFc q h) hFc (fun rr u t H_7 locs ht hvm hw hB hz1 hk1 hS2 => ?_)
  rw [hw]
  clear hw
  obtain ⟨hP1, -, hD1⟩ := hB
  rw [ht] at hP1
  replace hD := hD1.weaken (fun _ _ _ h => hFc _ h)
  replace hP := hP1
  replace hS := hS2
  clear hP1 hD1 hS2 hFc hfc hz1 hk1 hvm ht
  obtain ⟨h8, h9⟩ := ret_some hf
  rw [h8, h9]
  exact W.lret (v := r_6) hx hb hr (fun t ht hW => ⟨⟨r_6, (), rfl, rfl, by rw [ht]; exact hP, va_K.moved hW.alike hK, hD⟩, hS.F ht⟩) hS.2.2 dX5_fieldType_12

def fn_X5_headShift_L3 (F : Nat) (sh : Nat → Nat × Nat) (n : Nat) (x0 : Int64) : Nat → St → Int32 → Option (St × Int32)
  | 0, _, _ => none
  | f_3 + 1, z_2, p_1 => if (p_1 : Int32) ≤ 0 then some (z_2, p_1) else if ((((x0 : Int64).toUInt64 >>> ((p_1 : Int32).toInt64.toUInt64 &&& Int64.toUInt64 63)).toInt64) : Int64) = 0 then fn_X5_headShift_L3 F sh n x0 f_3 z_2 (p_1 + (-8)) else some (z_2, p_1)
theorem fn_X5_headShift_L3_s {F : Nat} {sh : Nat → Nat × Nat} {n : Nat} {x0 : Int64} {f_3 : Nat} {z_2 : St} {p_1 : Int32} {y : St × Int32} (h : fn_X5_headShift_L3 F sh n x0 (f_3 + 1) z_2 p_1 = some y) : (if (p_1 : Int32) ≤ 0 then some (z_2, p_1) else if ((((x0 : Int64).toUInt64 >>> ((p_1 : Int32).toInt64.toUInt64 &&& Int64.toUInt64 63)).toInt64) : Int64) = 0 then fn_X5_headShift_L3 F sh n x0 f_3 z_2 (p_1 + (-8)) else some (z_2, p_1)) = some y := h
def fn_X5_headShift (F : Nat) (sh : Nat → Nat × Nat) (n : Nat) (z : St) (x0 : Int64) : Option (St × Int32) := fn_X5_headShift_L3 F sh n x0 F z 56
set_option maxHeartbeats 4000000 in
set_option maxRecDepth 100000 in
theorem de_X5_headShift (l : Launch) (dC : Nat → ClassId) (dI : Nat → Nat → Nat) (cy : Nat → ClassId) (a : Nat → Nat) (sh : Nat → Nat × Nat) (n sz : Nat) (F : Nat) (z : St) (x0 : Int64) {z8 : St} {r8 : Int32} (hf : fn_X5_headShift F sh n z x0 = some (z8, r8)) : Met l yX5_headShift wsX5_headShift ({ frames := 0, cells := 0, slots := 0, locals := 0 }) (va_Pc [.long x0] (fun U => U.heap.size = sz ∧ va_P (dC, dI) vwCl (Wd cy a sh n z) U.heap ∧ va_K (dC, dI) vwCl (TYS cy) U ∧ va_D (fun _ => True) (Wd cy a sh n z) ∧ NK U)) (va_Qi (fun (r9 : Int32) (u : Unit) => r9 = r8) (fun u t => va_P (dC, dI) vwCl (Wd cy a sh n z8) t.heap ∧ va_K (dC, dI) vwCl (TYS cy) t ∧ va_D (va_A (Wd cy a sh n z) sz) (Wd cy a sh n z8)) (va_A (Wd cy a sh n z) sz)) 0 0 (va_A (Wd cy a sh n z) sz) := by
  refine Met.ofW (cc := cX5_headShift) (maxL := 3) (ret := (some .int)) (by decide) rfl ?_
  intro p e s m args below meth c s₁ B hml hv
  obtain ⟨rfl, hsz, hP, hK, hD0, hN⟩ := hv
  have hx := B.exec
  have hb := B.bytes
  have hr := B.returns
  have hts := atoms_spec (ws := wsX5_headShift) B.pre
  have hown : s.vm.findClass RX5 = some m.cls := findClass_of_methodNamed B.named
  have hlocks := B.notSynchronized
  subst hsz
  have hD := hD0.self (sz := s.heap.size)
  clear hD0
  generalize hAe : va_A (Wd cy a sh n z) s.heap.size = A at hD ⊢
  have hA : ∀ q : Nat, s.heap.size ≤ q → A q := fun q h => by rw [← hAe]; exact Or.inr h
  clear hAe
  have hS : va_S A s.heap s.heap [] := va_S.rf
  have hl := lv_entry ([.long x0]) (n := 3) (Nat.le_of_ble_eq_true rfl)
  rw [lg_entry_eq]
  generalize (lg_sl ([.long x0]) ++ List.replicate (3 - (lg_sl ([.long x0])).length) Slot.unset).toArray = ls at hl ⊢
  replace hl : lv_has ls 3 [(0, .long x0)] := hl
  unfold fn_X5_headShift at hf
  refine de_start hS hP (fun H locs hS hP => ?_)
  refine lv_bipush (v := 56) hx hb dX5_headShift_0 (by decide) ?_
  refine lv_istore_n (lv' := [(2, .int 56), (0, .long x0)]) hx hb dX5_headShift_2 rfl hl (by decide) rfl (fun ls hl2 => ?_)
  replace hl := hl2
  clear hl2
  have hl0 : lv_has ls 3 [(2, .int 56), (0, .long x0)] := lv_sub hl [0, 1] rfl
  refine de_loop (h := 3) (fun (x : St × Int32) ls H locs => lv_has ls 3 [(2, .int x.2), (0, .long x0)] ∧ va_P (dC, dI) vwCl (Wd cy a sh n x.1) H ∧ va_D A (Wd cy a sh n x.1) ∧ va_S A s.heap H locs) (fun f x => fn_X5_headShift_L3 F sh n x0 f x.1 x.2) (z8, r8) ?_ (fun _ => rfl) F (z, 56) ls H locs ⟨hl0, hP, hD, hS⟩ hf
  intro f_3 x ls H locs ih3 hI hf
  obtain ⟨z_2, p_1⟩ := x
  obtain ⟨hl2, hP2, hD2, hS2⟩ := hI
  replace hl : lv_has ls 3 [(2, .int p_1), (0, .long x0)] := hl2
  replace hP := hP2
  replace hD := hD2
  replace hS := hS2
  clear hl2 hP2 hD2 hS2 hl0
  replace hf := fn_X5_headShift_L3_s hf
  refine lv_iload_n hx hb dX5_headShift_3 rfl (lv_at hl 0 rfl) ?_
  refine lv_if_le (tgt := 21) hx hb dX5_headShift_4 (by decide) (fun c_4 => ?_) (fun c_4 => ?_)
  · skip
    rw [if_pos c_4] at hf
    refine lv_iload_n hx hb dX5_headShift_21 rfl (lv_at hl 0 rfl) ?_
    obtain ⟨h8, h9⟩ := ret_some hf
    rw [h8, h9]
    exact W.iret (v := p_1) hx hb hr (fun t ht hW => ⟨⟨p_1, (), rfl, rfl, by rw [ht]; exact hP, va_K.moved hW.alike hK, hD⟩, hS.F ht⟩) hS.2.2 dX5_headShift_22
  · skip
    rw [if_neg c_4] at hf
    refine lv_lload_n hx hb dX5_headShift_7 rfl (lv_at hl 1 rfl) ?_
    refine lv_iload_n hx hb dX5_headShift_8 rfl (lv_at hl 0 rfl) ?_
    refine lv_lushr (v := ((x0 : Int64).toUInt64 >>> ((p_1 : Int32).toInt64.toUInt64 &&& Int64.toUInt64 63)).toInt64) hx hb dX5_headShift_9 rfl ?_
    refine lv_lconst (v := 0) hx hb dX5_headShift_10 (by decide) ?_
    refine W.lcmp hx hb dX5_headShift_11 ?_
    refine lv_if_ne (tgt := 21) hx hb dX5_headShift_12 (by decide) (fun c_5 => ?_) (fun c_5 => ?_)
    · skip
      rw [lg_cmp_eq] at c_5
      rw [if_neg c_5] at hf
      refine lv_iload_n hx hb dX5_headShift_21 rfl (lv_at hl 0 rfl) ?_
      obtain ⟨h8, h9⟩ := ret_some hf
      rw [h8, h9]
      exact W.iret (v := p_1) hx hb hr (fun t ht hW => ⟨⟨p_1, (), rfl, rfl, by rw [ht]; exact hP, va_K.moved hW.alike hK, hD⟩, hS.F ht⟩) hS.2.2 dX5_headShift_22
    · skip
      rw [lg_cmp_eq] at c_5
      rw [if_pos c_5] at hf
      refine lv_iinc (v := (p_1 + (-8))) (lv' := [(2, .int (p_1 + (-8))), (0, .long x0)]) hx hb dX5_headShift_15 hl (k := 0) rfl rfl (by decide) rfl (fun ls hl2 => ?_)
      replace hl := hl2
      clear hl2
      refine lv_goto (tgt := 3) hx hb dX5_headShift_18 (by decide) ?_
      exact ih3 (z_2, (p_1 + (-8))) ls H locs ⟨lv_sub hl [0, 1] rfl, hP, hD, hS⟩ hf

theorem md_X5_endsInStructure_1 : (.constantLong RX5 92 (255) : Cond) ∈ wsX5_endsInStructure := List.mem_of_getElem? (i := 1) rfl
theorem md_X5_endsInStructure_2 : (.constantLong RX5 94 (6) : Cond) ∈ wsX5_endsInStructure := List.mem_of_getElem? (i := 2) rfl
def fn_X5_endsInStructure (F : Nat) (sh : Nat → Nat × Nat) (n : Nat) (z : St) (x0 : Int64) : Option (St × Int32) := if (((((x0 : Int64).toUInt64 >>> ((8 : Int32).toInt64.toUInt64 &&& Int64.toUInt64 63)).toInt64) &&& 255) : Int64) = 6 then some (z, 1) else some (z, 0)
set_option maxHeartbeats 4000000 in
set_option maxRecDepth 100000 in
theorem de_X5_endsInStructure (l : Launch) (dC : Nat → ClassId) (dI : Nat → Nat → Nat) (cy : Nat → ClassId) (a : Nat → Nat) (sh : Nat → Nat × Nat) (n sz : Nat) (F : Nat) (z : St) (x0 : Int64) {z8 : St} {r8 : Int32} (hf : fn_X5_endsInStructure F sh n z x0 = some (z8, r8)) : Met l yX5_endsInStructure wsX5_endsInStructure ({ frames := 0, cells := 0, slots := 0, locals := 0 }) (va_Pc [.long x0] (fun U => U.heap.size = sz ∧ va_P (dC, dI) vwCl (Wd cy a sh n z) U.heap ∧ va_K (dC, dI) vwCl (TYS cy) U ∧ va_D (fun _ => True) (Wd cy a sh n z) ∧ NK U)) (va_Qi (fun (r9 : Int32) (u : Unit) => r9 = r8) (fun u t => va_P (dC, dI) vwCl (Wd cy a sh n z8) t.heap ∧ va_K (dC, dI) vwCl (TYS cy) t ∧ va_D (va_A (Wd cy a sh n z) sz) (Wd cy a sh n z8)) (va_A (Wd cy a sh n z) sz)) 0 0 (va_A (Wd cy a sh n z) sz) := by
  refine Met.ofW (cc := cX5_endsInStructure) (maxL := 2) (ret := (some .boolean)) (by decide) rfl ?_
  intro p e s m args below meth c s₁ B hml hv
  obtain ⟨rfl, hsz, hP, hK, hD0, hN⟩ := hv
  have hx := B.exec
  have hb := B.bytes
  have hr := B.returns
  have hts := atoms_spec (ws := wsX5_endsInStructure) B.pre
  have hown : s.vm.findClass RX5 = some m.cls := findClass_of_methodNamed B.named
  have hlocks := B.notSynchronized
  subst hsz
  have hD := hD0.self (sz := s.heap.size)
  clear hD0
  generalize hAe : va_A (Wd cy a sh n z) s.heap.size = A at hD ⊢
  have hA : ∀ q : Nat, s.heap.size ≤ q → A q := fun q h => by rw [← hAe]; exact Or.inr h
  clear hAe
  have hS : va_S A s.heap s.heap [] := va_S.rf
  have hl := lv_entry ([.long x0]) (n := 2) (Nat.le_of_ble_eq_true rfl)
  rw [lg_entry_eq]
  generalize (lg_sl ([.long x0]) ++ List.replicate (2 - (lg_sl ([.long x0])).length) Slot.unset).toArray = ls at hl ⊢
  replace hl : lv_has ls 2 [(0, .long x0)] := hl
  unfold fn_X5_endsInStructure at hf
  refine de_start hS hP (fun H locs hS hP => ?_)
  refine lv_lload_n hx hb dX5_endsInStructure_0 rfl (lv_at hl 0 rfl) ?_
  refine lv_bipush (v := 8) hx hb dX5_endsInStructure_1 (by decide) ?_
  refine lv_lushr (v := ((x0 : Int64).toUInt64 >>> ((8 : Int32).toInt64.toUInt64 &&& Int64.toUInt64 63)).toInt64) hx hb dX5_endsInStructure_3 rfl ?_
  refine lv_ldc2 hx hb hown (hts _ md_X5_endsInStructure_1) dX5_endsInStructure_4 ?_
  refine lv_land hx hb dX5_endsInStructure_7 ?_
  refine lv_ldc2 hx hb hown (hts _ md_X5_endsInStructure_2) dX5_endsInStructure_8 ?_
  refine W.lcmp hx hb dX5_endsInStructure_11 ?_
  refine lv_if_ne (tgt := 19) hx hb dX5_endsInStructure_12 (by decide) (fun c_1 => ?_) (fun c_1 => ?_)
  · skip
    rw [lg_cmp_eq] at c_1
    rw [if_neg c_1] at hf
    refine lv_iconst (v := 0) hx hb dX5_endsInStructure_19 (by decide) ?_
    obtain ⟨h8, h9⟩ := ret_some hf
    rw [h8, h9]
    exact W.zret (v := 0) hx hb hr rfl (fun t ht hW => ⟨⟨0, (), rfl, rfl, by rw [ht]; exact hP, va_K.moved hW.alike hK, hD⟩, hS.F ht⟩) hS.2.2 dX5_endsInStructure_20
  · skip
    rw [lg_cmp_eq] at c_1
    rw [if_pos c_1] at hf
    refine lv_iconst (v := 1) hx hb dX5_endsInStructure_15 (by decide) ?_
    refine lv_goto (tgt := 20) hx hb dX5_endsInStructure_16 (by decide) ?_
    obtain ⟨h8, h9⟩ := ret_some hf
    rw [h8, h9]
    exact W.zret (v := 1) hx hb hr rfl (fun t ht hW => ⟨⟨1, (), rfl, rfl, by rw [ht]; exact hP, va_K.moved hW.alike hK, hD⟩, hS.F ht⟩) hS.2.2 dX5_endsInStructure_20

theorem md_X5_depthOf_1 : (.constantLong RX5 92 (255) : Cond) ∈ wsX5_depthOf := List.mem_of_getElem? (i := 1) rfl
theorem md_X5_depthOf_2 : (.constantLong RX5 143 (7) : Cond) ∈ wsX5_depthOf := List.mem_of_getElem? (i := 2) rfl
def fn_X5_depthOf_L30 (F : Nat) (sh : Nat → Nat × Nat) (n : Nat) (x0 : Int64) : Nat → St → Int32 → Int32 → Option (St × Int32)
  | 0, _, _, _ => none
  | f_12 + 1, z_11, p_9, p_10 => if (p_10 : Int32) ≤ 0 then some (z_11, p_9) else if (((((x0 : Int64).toUInt64 >>> ((p_10 : Int32).toInt64.toUInt64 &&& Int64.toUInt64 63)).toInt64) &&& 255) : Int64) = 7 then fn_X5_depthOf_L30 F sh n x0 f_12 z_11 (p_9 + 1) (p_10 + (-8)) else some (z_11, p_9)
theorem fn_X5_depthOf_L30_s {F : Nat} {sh : Nat → Nat × Nat} {n : Nat} {x0 : Int64} {f_12 : Nat} {z_11 : St} {p_9 : Int32} {p_10 : Int32} {y : St × Int32} (h : fn_X5_depthOf_L30 F sh n x0 (f_12 + 1) z_11 p_9 p_10 = some y) : (if (p_10 : Int32) ≤ 0 then some (z_11, p_9) else if (((((x0 : Int64).toUInt64 >>> ((p_10 : Int32).toInt64.toUInt64 &&& Int64.toUInt64 63)).toInt64) &&& 255) : Int64) = 7 then fn_X5_depthOf_L30 F sh n x0 f_12 z_11 (p_9 + 1) (p_10 + (-8)) else some (z_11, p_9)) = some y := h
def fn_X5_depthOf_B23 (F : Nat) (sh : Nat → Nat × Nat) (n : Nat) (x0 : Int64) (z_5 : St) (p_4 : Int32) : Option (St × Int32) := cal (fn_X5_headShift F sh n z_5 x0) (fun z_6 r_7 => fn_X5_depthOf_L30 F sh n x0 F z_6 p_4 r_7)
theorem fn_X5_depthOf_B23_s {F : Nat} {sh : Nat → Nat × Nat} {n : Nat} {x0 : Int64} {z_5 : St} {p_4 : Int32} {y : St × Int32} (h : fn_X5_depthOf_B23 F sh n x0 z_5 p_4 = some y) : (cal (fn_X5_headShift F sh n z_5 x0) (fun z_6 r_7 => fn_X5_depthOf_L30 F sh n x0 F z_6 p_4 r_7)) = some y := h
def fn_X5_depthOf (F : Nat) (sh : Nat → Nat × Nat) (n : Nat) (z : St) (h0 : Nat) (x0 : Int64) : Option (St × Int32) := cal (fn_X5_endsInStructure F sh n z x0) (fun z_1 r_2 => if (r_2 : Int32) = 0 then fn_X5_depthOf_B23 F sh n x0 z_1 1 else grd (okO sh n h0 5) (cal (fn_X5_structureColumn F sh n z_1 h0 (((x0 : Int64).toInt32) &&& 255) 6) (fun z_16 r_17 => fn_X5_depthOf_B23 F sh n x0 z_16 r_17)))
set_option maxHeartbeats 4000000 in
set_option maxRecDepth 100000 in
theorem de_X5_depthOf (l : Launch) (dC : Nat → ClassId) (dI : Nat → Nat → Nat) (cy : Nat → ClassId) (a : Nat → Nat) (sh : Nat → Nat × Nat) (n sz : Nat) (F : Nat) (z : St) (h0 : Nat) (x0 : Int64) {z8 : St} {r8 : Int32} (hf : fn_X5_depthOf F sh n z h0 x0 = some (z8, r8)) : Met l yX5_depthOf wsX5_depthOf ({ frames := 1, cells := 0, slots := 0, locals := 22 }) (va_Pc [.ref (a h0), .long x0] (fun U => U.heap.size = sz ∧ va_P (dC, dI) vwCl (Wd cy a sh n z) U.heap ∧ va_K (dC, dI) vwCl (TYS cy) U ∧ va_D (fun _ => True) (Wd cy a sh n z) ∧ NK U)) (va_Qi (fun (r9 : Int32) (u : Unit) => r9 = r8) (fun u t => va_P (dC, dI) vwCl (Wd cy a sh n z8) t.heap ∧ va_K (dC, dI) vwCl (TYS cy) t ∧ va_D (va_A (Wd cy a sh n z) sz) (Wd cy a sh n z8)) (va_A (Wd cy a sh n z) sz)) 0 0 (va_A (Wd cy a sh n z) sz) := by
  refine Met.ofW (cc := cX5_depthOf) (maxL := 5) (ret := (some .int)) (by decide) rfl ?_
  intro p e s m args below meth c s₁ B hml hv
  obtain ⟨rfl, hsz, hP, hK, hD0, hN⟩ := hv
  have hx := B.exec
  have hb := B.bytes
  have hr := B.returns
  have hts := atoms_spec (ws := wsX5_depthOf) B.pre
  have hown : s.vm.findClass RX5 = some m.cls := findClass_of_methodNamed B.named
  have hlocks := B.notSynchronized
  subst hsz
  have hD := hD0.self (sz := s.heap.size)
  clear hD0
  generalize hAe : va_A (Wd cy a sh n z) s.heap.size = A at hD ⊢
  have hA : ∀ q : Nat, s.heap.size ≤ q → A q := fun q h => by rw [← hAe]; exact Or.inr h
  clear hAe
  have hS : va_S A s.heap s.heap [] := va_S.rf
  have hl := lv_entry ([.ref (a h0), .long x0]) (n := 5) (Nat.le_of_ble_eq_true rfl)
  rw [lg_entry_eq]
  generalize (lg_sl ([.ref (a h0), .long x0]) ++ List.replicate (5 - (lg_sl ([.ref (a h0), .long x0])).length) Slot.unset).toArray = ls at hl ⊢
  replace hl : lv_has ls 5 [(0, .ref (a h0)), (1, .long x0)] := hl
  unfold fn_X5_depthOf at hf
  refine de_start hS hP (fun H locs hS hP => ?_)
  refine lv_lload_n hx hb dX5_depthOf_0 rfl (lv_at hl 1 rfl) ?_
  obtain ⟨z_1, r_2, hfc, hf⟩ := cal_some hf
  have hFc := de_free hD hS hA
  refine va_calli (va_runS (As := [.long x0]) (rest := []) ⟨hx, hb, hml, hown, hts⟩ (de_X5_endsInStructure l dC dI cy a sh n H.size F z x0 hfc) (va_cwS 1 hts gX5_depthOf_X5_endsInStructure rfl rfl rfl (by decide +kernel) ⟨Nat.le_of_ble_eq_true rfl, Nat.le_of_ble_eq_true rfl⟩) ⟨fun a U g mk q => by obtain ⟨q0, q1, qP, qK, qD, qN⟩ := q; exact ⟨q0, q1, qP, va_K.moved (u := U) (U := U.calling g mk a) (Vm.Alike.refl U.vm) qK, qD, qN.same rfl⟩, fun U hU hW => ⟨rfl, by rw [hU], by rw [hU]; exact hP, va_K.moved hW.alike hK, hD.weaken (fun _ _ _ _ => trivial), hN.warm hW⟩⟩ rfl rfl hl.1 rfl (lv_room (Nat.le_of_ble_eq_true rfl)) dX5_depthOf_1 ⟨Nat.le_of_ble_eq_true rfl, Nat.le_of_ble_eq_true rfl⟩) hS (fun q _ h => hFc q h) hFc (fun rr u t H_3 locs ht hvm hw hB hz1 hk1 hS2 => ?_)
  rw [hw]
  clear hw
  obtain ⟨hP1, -, hD1⟩ := hB
  rw [ht] at hP1
  replace hD := hD1.weaken (fun _ _ _ h => hFc _ h)
  replace hP := hP1
  replace hS := hS2
  clear hP1 hD1 hS2 hFc hfc hz1 hk1 hvm ht
  refine de_cut (h := 23) (fun (x : St × Int32) => [.int x.2]) (fun x ls H locs => lv_has ls 5 [(1, .long x0)] ∧ va_P (dC, dI) vwCl (Wd cy a sh n x.1) H ∧ va_D A (Wd cy a sh n x.1) ∧ va_S A s.heap H locs) (fun x => fn_X5_depthOf_B23 F sh n x0 x.1 x.2) (z8, r8) ?_ (fun B23 => ?_)
  · intro x ls H locs hI hf
    obtain ⟨z_5, p_4⟩ := x
    obtain ⟨hl2, hP2, hD2, hS2⟩ := hI
    replace hl : lv_has ls 5 [(1, .long x0)] := hl2
    replace hP := hP2
    replace hD := hD2
    replace hS := hS2
    clear hl2 hP2 hD2 hS2
    replace hf := fn_X5_depthOf_B23_s hf
    refine W.eq (g2 := F0 m 23 ls [.int p_4]) rfl ?_
    refine lv_istore_n (lv' := [(3, .int p_4), (1, .long x0)]) hx hb dX5_depthOf_23 rfl hl (by decide) rfl (fun ls hl2 => ?_)
    replace hl := hl2
    clear hl2
    refine lv_lload_n hx hb dX5_depthOf_24 rfl (lv_at hl 1 rfl) ?_
    obtain ⟨z_6, r_7, hfc, hf⟩ := cal_some hf
    have hFc := de_free hD hS hA
    refine va_calli (va_runS (As := [.long x0]) (rest := []) ⟨hx, hb, hml, hown, hts⟩ (de_X5_headShift l dC dI cy a sh n H.size F z_5 x0 hfc) (va_cwS 1 hts gX5_depthOf_X5_headShift rfl rfl rfl (by decide +kernel) ⟨Nat.le_of_ble_eq_true rfl, Nat.le_of_ble_eq_true rfl⟩) ⟨fun a U g mk q => by obtain ⟨q0, q1, qP, qK, qD, qN⟩ := q; exact ⟨q0, q1, qP, va_K.moved (u := U) (U := U.calling g mk a) (Vm.Alike.refl U.vm) qK, qD, qN.same rfl⟩, fun U hU hW => ⟨rfl, by rw [hU], by rw [hU]; exact hP, va_K.moved hW.alike hK, hD.weaken (fun _ _ _ _ => trivial), hN.warm hW⟩⟩ rfl rfl hl.1 rfl (lv_room (Nat.le_of_ble_eq_true rfl)) dX5_depthOf_25 ⟨Nat.le_of_ble_eq_true rfl, Nat.le_of_ble_eq_true rfl⟩) hS (fun q _ h => hFc q h) hFc (fun rr u t H_8 locs ht hvm hw hB hz1 hk1 hS2 => ?_)
    rw [hw]
    clear hw
    obtain ⟨hP1, -, hD1⟩ := hB
    rw [ht] at hP1
    replace hD := hD1.weaken (fun _ _ _ h => hFc _ h)
    replace hP := hP1
    replace hS := hS2
    clear hP1 hD1 hS2 hFc hfc hz1 hk1 hvm ht
    refine lv_istore (lv' := [(4, .int r_7), (3, .int p_4), (1, .long x0)]) hx hb dX5_depthOf_28 hl (by decide) rfl (fun ls hl2 => ?_)
    replace hl := hl2
    clear hl2
    have hl0 : lv_has ls 5 [(4, .int r_7), (3, .int p_4), (1, .long x0)] := lv_sub hl [0, 1, 2] rfl
    refine de_loop (h := 30) (fun (x : St × Int32 × Int32) ls H locs => lv_has ls 5 [(4, .int x.2.2), (3, .int x.2.1), (1, .long x0)] ∧ va_P (dC, dI) vwCl (Wd cy a sh n x.1) H ∧ va_D A (Wd cy a sh n x.1) ∧ va_S A s.heap H locs) (fun f x => fn_X5_depthOf_L30 F sh n x0 f x.1 x.2.1 x.2.2) (z8, r8) ?_ (fun _ => rfl) F (z_6, p_4, r_7) ls H_8 locs ⟨hl0, hP, hD, hS⟩ hf
    intro f_12 x ls H locs ih30 hI hf
    obtain ⟨z_11, p_9, p_10⟩ := x
    obtain ⟨hl2, hP2, hD2, hS2⟩ := hI
    replace hl : lv_has ls 5 [(4, .int p_10), (3, .int p_9), (1, .long x0)] := hl2
    replace hP := hP2
    replace hD := hD2
    replace hS := hS2
    clear hl2 hP2 hD2 hS2 hl0
    replace hf := fn_X5_depthOf_L30_s hf
    refine lv_iload hx hb dX5_depthOf_30 (lv_at hl 0 rfl) ?_
    refine lv_if_le (tgt := 59) hx hb dX5_depthOf_32 (by decide) (fun c_13 => ?_) (fun c_13 => ?_)
    · skip
      rw [if_pos c_13] at hf
      refine lv_iload_n hx hb dX5_depthOf_59 rfl (lv_at hl 1 rfl) ?_
      obtain ⟨h8, h9⟩ := ret_some hf
      rw [h8, h9]
      exact W.iret (v := p_9) hx hb hr (fun t ht hW => ⟨⟨p_9, (), rfl, rfl, by rw [ht]; exact hP, va_K.moved hW.alike hK, hD⟩, hS.F ht⟩) hS.2.2 dX5_depthOf_60
    · skip
      rw [if_neg c_13] at hf
      refine lv_lload_n hx hb dX5_depthOf_35 rfl (lv_at hl 2 rfl) ?_
      refine lv_iload hx hb dX5_depthOf_36 (lv_at hl 0 rfl) ?_
      refine lv_lushr (v := ((x0 : Int64).toUInt64 >>> ((p_10 : Int32).toInt64.toUInt64 &&& Int64.toUInt64 63)).toInt64) hx hb dX5_depthOf_38 rfl ?_
      refine lv_ldc2 hx hb hown (hts _ md_X5_depthOf_1) dX5_depthOf_39 ?_
      refine lv_land hx hb dX5_depthOf_42 ?_
      refine lv_ldc2 hx hb hown (hts _ md_X5_depthOf_2) dX5_depthOf_43 ?_
      refine W.lcmp hx hb dX5_depthOf_46 ?_
      refine lv_if_ne (tgt := 59) hx hb dX5_depthOf_47 (by decide) (fun c_14 => ?_) (fun c_14 => ?_)
      · skip
        rw [lg_cmp_eq] at c_14
        rw [if_neg c_14] at hf
        refine lv_iload_n hx hb dX5_depthOf_59 rfl (lv_at hl 1 rfl) ?_
        obtain ⟨h8, h9⟩ := ret_some hf
        rw [h8, h9]
        exact W.iret (v := p_9) hx hb hr (fun t ht hW => ⟨⟨p_9, (), rfl, rfl, by rw [ht]; exact hP, va_K.moved hW.alike hK, hD⟩, hS.F ht⟩) hS.2.2 dX5_depthOf_60
      · skip
        rw [lg_cmp_eq] at c_14
        rw [if_pos c_14] at hf
        refine lv_iinc (v := (p_9 + 1)) (lv' := [(3, .int (p_9 + 1)), (4, .int p_10), (1, .long x0)]) hx hb dX5_depthOf_50 hl (k := 1) rfl rfl (by decide) rfl (fun ls hl2 => ?_)
        replace hl := hl2
        clear hl2
        refine lv_iinc (v := (p_10 + (-8))) (lv' := [(4, .int (p_10 + (-8))), (3, .int (p_9 + 1)), (1, .long x0)]) hx hb dX5_depthOf_53 hl (k := 1) rfl rfl (by decide) rfl (fun ls hl2 => ?_)
        replace hl := hl2
        clear hl2
        refine lv_goto (tgt := 30) hx hb dX5_depthOf_56 (by decide) ?_
        exact ih30 (z_11, (p_9 + 1), (p_10 + (-8))) ls H locs ⟨lv_sub hl [0, 1, 2] rfl, hP, hD, hS⟩ hf
  refine lv_if_eq (tgt := 22) hx hb dX5_depthOf_4 (by decide) (fun c_15 => ?_) (fun c_15 => ?_)
  · skip
    rw [if_pos c_15] at hf
    refine lv_iconst (v := 1) hx hb dX5_depthOf_22 (by decide) ?_
    exact B23 (z_1, 1) ls H_3 locs ⟨lv_sub hl [1] rfl, hP, hD, hS⟩ hf
  · skip
    rw [if_neg c_15] at hf
    refine lv_aload_n hx hb dX5_depthOf_7 rfl (lv_at hl 0 rfl) ?_
    refine lv_lload_n hx hb dX5_depthOf_8 rfl (lv_at hl 1 rfl) ?_
    refine lv_l2i (v := (x0 : Int64).toInt32) hx hb dX5_depthOf_9 rfl ?_
    refine lv_sipush (v := 255) hx hb dX5_depthOf_10 (by decide) ?_
    refine lv_iand hx hb dX5_depthOf_13 ?_
    refine lv_bipush (v := 6) hx hb dX5_depthOf_14 (by decide) ?_
    obtain ⟨g_18, hf⟩ := grd_some hf
    obtain ⟨kg_18, sg_18⟩ := okO_at g_18
    obtain ⟨z_16, r_17, hfc, hf⟩ := cal_some hf
    have hFc := de_free hD hS hA
    refine va_calli (va_runV (As := [.int (((x0 : Int64).toInt32) &&& 255), .int 6]) (rest := []) ⟨hx, hb, hml, hown, hts⟩ (de_X5_structureColumn l dC dI cy a sh n H_3.size F z_1 h0 (((x0 : Int64).toInt32) &&& 255) 6 hfc) (cwV 2 hts gX5_depthOf_X5_structureColumn rfl rfl rfl (by decide +kernel) ⟨Nat.le_of_ble_eq_true rfl, Nat.le_of_ble_eq_true rfl⟩) ⟨fun a U g mk q => by obtain ⟨q0, q1, qP, qK, qD, qN⟩ := q; exact ⟨q0, q1, qP, va_K.moved (u := U) (U := U.calling g mk a) (Vm.Alike.refl U.vm) qK, qD, qN.same rfl⟩, va_recv hK hP (ci := 5) (q0 := h0) rfl (Wd_ob kg_18 sg_18 (by decide)), fun U hU hW => ⟨rfl, by rw [hU], by rw [hU]; exact hP, va_K.moved hW.alike hK, hD.weaken (fun _ _ _ _ => trivial), hN.warm hW⟩⟩ rfl rfl hl.1 rfl (lv_room (Nat.le_of_ble_eq_true rfl)) dX5_depthOf_16 ⟨Nat.le_of_ble_eq_true rfl, Nat.le_of_ble_eq_true rfl⟩) hS (fun q _ h => hFc q h) hFc (fun rr u t H_19 locs ht hvm hw hB hz1 hk1 hS2 => ?_)
    rw [hw]
    clear hw
    obtain ⟨hP1, -, hD1⟩ := hB
    rw [ht] at hP1
    replace hD := hD1.weaken (fun _ _ _ h => hFc _ h)
    replace hP := hP1
    replace hS := hS2
    clear hP1 hD1 hS2 hFc hfc hz1 hk1 hvm ht
    refine lv_goto (tgt := 23) hx hb dX5_depthOf_19 (by decide) ?_
    exact B23 (z_16, r_17) ls H_19 locs ⟨lv_sub hl [1] rfl, hP, hD, hS⟩ hf

theorem md_X5_addType_1 : (.fieldLink RX5 39 "ResourceLedger$Program" "typeCount" "I" : Cond) ∈ wsX5_addType := List.mem_of_getElem? (i := 1) rfl
theorem iwd_X5_addType_X5 : ∀ w ∈ wsX50, w ∈ wsX5_addType := fun _ h => List.mem_cons_of_mem _ (List.mem_append_right _ h)
theorem md_X5_addType_2 : (.fieldLink RX5 9 "ResourceLedger$Program" "types" "[J" : Cond) ∈ wsX5_addType := List.mem_of_getElem? (i := 2) rfl
def fn_X5_addType (F : Nat) (sh : Nat → Nat × Nat) (n : Nat) (z : St) (h0 : Nat) (x0 : Int64) : Option (St × Unit) := grd (okO sh n h0 5) (lnk (z.2.2 h0 3) (fun k_2 => grd (okO sh n k_2 102) (if ((Int32.ofNat (sh k_2).2) : Int32) ≤ (z.1 h0 4) then some (z, ()) else lnk (z.2.2 h0 3) (fun k_5 => lt_ (z.1 h0 4) (fun v_6 => lt_ (si z h0 4 (v_6 + 1)) (fun z_8 => grd (okA sh n k_5 102 v_6) (lt_ (sl z_8 k_5 v_6.toNatClampNeg x0) (fun z_11 => some (z_11, ())))))))))
set_option maxHeartbeats 4000000 in
set_option maxRecDepth 100000 in
theorem de_X5_addType (l : Launch) (dC : Nat → ClassId) (dI : Nat → Nat → Nat) (cy : Nat → ClassId) (a : Nat → Nat) (sh : Nat → Nat × Nat) (n sz : Nat) (F : Nat) (z : St) (h0 : Nat) (x0 : Int64) {z8 : St} {r8 : Unit} (hf : fn_X5_addType F sh n z h0 x0 = some (z8, r8)) : Met l yX5_addType wsX5_addType ({ frames := 0, cells := 0, slots := 0, locals := 0 }) (va_Pc [.ref (a h0), .long x0] (fun U => U.heap.size = sz ∧ va_P (dC, dI) vwCl (Wd cy a sh n z) U.heap ∧ va_K (dC, dI) vwCl (TYS cy) U ∧ va_D (fun _ => True) (Wd cy a sh n z) ∧ NK U)) (va_Qv (fun u : Unit => True) (fun u t => va_P (dC, dI) vwCl (Wd cy a sh n z8) t.heap ∧ va_K (dC, dI) vwCl (TYS cy) t ∧ va_D (va_A (Wd cy a sh n z) sz) (Wd cy a sh n z8)) (va_A (Wd cy a sh n z) sz)) 0 0 (va_A (Wd cy a sh n z) sz) := by
  refine Met.ofW (cc := cX5_addType) (maxL := 3) (ret := none) (by decide) rfl ?_
  intro p e s m args below meth c s₁ B hml hv
  obtain ⟨rfl, hsz, hP, hK, hD0, hN⟩ := hv
  have hx := B.exec
  have hb := B.bytes
  have hr := B.returns
  have hts := atoms_spec (ws := wsX5_addType) B.pre
  have hown : s.vm.findClass RX5 = some m.cls := findClass_of_methodNamed B.named
  have hlocks := B.notSynchronized
  subst hsz
  have hD := hD0.self (sz := s.heap.size)
  clear hD0
  generalize hAe : va_A (Wd cy a sh n z) s.heap.size = A at hD ⊢
  have hA : ∀ q : Nat, s.heap.size ≤ q → A q := fun q h => by rw [← hAe]; exact Or.inr h
  clear hAe
  have hS : va_S A s.heap s.heap [] := va_S.rf
  have hl := lv_entry ([.ref (a h0), .long x0]) (n := 3) (Nat.le_of_ble_eq_true rfl)
  rw [lg_entry_eq]
  generalize (lg_sl ([.ref (a h0), .long x0]) ++ List.replicate (3 - (lg_sl ([.ref (a h0), .long x0])).length) Slot.unset).toArray = ls at hl ⊢
  replace hl : lv_has ls 3 [(0, .ref (a h0)), (1, .long x0)] := hl
  unfold fn_X5_addType at hf
  refine de_start hS hP (fun H locs hS hP => ?_)
  refine lv_aload_n hx hb dX5_addType_0 rfl (lv_at hl 0 rfl) ?_
  obtain ⟨g_1, hf⟩ := grd_some hf
  obtain ⟨kg_1, sg_1⟩ := okO_at g_1
  refine va_get (D := (dC, dI)) (ci := 5) (v := .int (z.1 h0 4)) (C := RX5) (T := TX5) (N := 15) hx hb hts iwd_X5_addType_X5 hown hK hP h0 (Wd_ob kg_1 sg_1 (by decide)) rfl 4 (by decide) (hts _ md_X5_addType_1) (fun _ h9 => h9) (fl_at (t := 0) rfl) dX5_addType_1 ?_
  refine lv_aload_n hx hb dX5_addType_4 rfl (lv_at hl 0 rfl) ?_
  obtain ⟨k_2, ek_2, hf⟩ := lnk_some hf
  refine va_get (D := (dC, dI)) (ci := 5) (v := .ref (a k_2)) (C := RX5) (T := TX5) (N := 15) hx hb hts iwd_X5_addType_X5 hown hK hP h0 (Wd_ob kg_1 sg_1 (by decide)) rfl 3 (by decide) (hts _ md_X5_addType_2) (fun _ h9 => h9) (fl_q rfl ek_2) dX5_addType_5 ?_
  obtain ⟨g_3, hf⟩ := grd_some hf
  obtain ⟨kg_3, sg_3⟩ := okO_at g_3
  refine va_alen (v := Int32.ofNat (sh k_2).2) hx hb hK hP k_2 2 (Wd_al kg_3 sg_3) rfl rfl dX5_addType_8 ?_
  refine lv_icmp_ge (tgt := 29) hx hb dX5_addType_9 (by decide) (fun c_4 => ?_) (fun c_4 => ?_)
  · skip
    rw [if_pos c_4] at hf
    obtain ⟨h8, h9⟩ := ret_some hf
    rw [h8]
    exact W.vret hx hb hr (fun t ht hW => ⟨⟨(), rfl, trivial, by rw [ht]; exact hP, va_K.moved hW.alike hK, hD⟩, hS.F ht⟩) hS.2.2 dX5_addType_29
  · skip
    rw [if_neg c_4] at hf
    refine lv_aload_n hx hb dX5_addType_12 rfl (lv_at hl 0 rfl) ?_
    obtain ⟨k_5, ek_5, hf⟩ := lnk_some hf
    refine va_get (D := (dC, dI)) (ci := 5) (v := .ref (a k_5)) (C := RX5) (T := TX5) (N := 15) hx hb hts iwd_X5_addType_X5 hown hK hP h0 (Wd_ob kg_1 sg_1 (by decide)) rfl 3 (by decide) (hts _ md_X5_addType_2) (fun _ h9 => h9) (fl_q rfl ek_5) dX5_addType_13 ?_
    refine lv_aload_n hx hb dX5_addType_16 rfl (lv_at hl 0 rfl) ?_
    refine lv_dup hx hb dX5_addType_17 rfl ?_
    refine va_get (D := (dC, dI)) (ci := 5) (v := .int (z.1 h0 4)) (C := RX5) (T := TX5) (N := 15) hx hb hts iwd_X5_addType_X5 hown hK hP h0 (Wd_ob kg_1 sg_1 (by decide)) rfl 4 (by decide) (hts _ md_X5_addType_1) (fun _ h9 => h9) (fl_at (t := 0) rfl) dX5_addType_18 ?_
    refine lv_topi (fun v_6 ev_6 => ?_)
    replace hf := lt_at ev_6 hf
    clear ev_6
    refine lv_dup_x1 hx hb dX5_addType_21 rfl rfl ?_
    refine lv_iconst (v := 1) hx hb dX5_addType_22 (by decide) ?_
    refine lv_iadd hx hb dX5_addType_23 ?_
    refine va_put (D := (dC, dI)) (ci := 5) (v := .int (v_6 + 1)) (ty := .int) (C := RX5) (T := TX5) (N := 15) hx hb hts iwd_X5_addType_X5 tyX5 tyX5_ok nmX5 hown hK hP hD hS h0 (Wd_ob kg_1 sg_1 (by decide)) rfl 4 (by decide) (hts _ md_X5_addType_1) (fun _ h9 => h9) rfl (by decide +kernel) rfl rfl (by rw [fl_len]; decide) dX5_addType_24 (fun H_7 locs hP2 hD2 hS2 => ?_)
    rw [Wd_si sg_1 (by decide) rfl] at hP2 hD2
    obtain ⟨z_8, ez_8⟩ : ∃ w, w = si z h0 4 (v_6 + 1) := ⟨_, rfl⟩
    rw [← ez_8] at hP2 hD2
    replace hf := lt_at ez_8 hf
    clear ez_8
    replace hP := hP2
    replace hD := hD2
    replace hS := hS2
    clear hP2 hD2 hS2
    refine lv_lload_n hx hb dX5_addType_27 rfl (lv_at hl 1 rfl) ?_
    obtain ⟨g_9, hf⟩ := grd_some hf
    obtain ⟨kg_9, sg_9, ig_9⟩ := okA_at g_9
    refine va_last hx hb hK hP hD hS k_5 2 (Wd_al kg_9 sg_9) rfl ig_9 dX5_addType_28 (fun H_10 locs hP2 hD2 hS2 => ?_)
    rw [Wd_tl sg_9] at hP2 hD2
    obtain ⟨z_11, ez_11⟩ : ∃ w, w = sl z_8 k_5 v_6.toNatClampNeg x0 := ⟨_, rfl⟩
    rw [← ez_11] at hP2 hD2
    replace hf := lt_at ez_11 hf
    clear ez_11
    replace hP := hP2
    replace hD := hD2
    replace hS := hS2
    clear hP2 hD2 hS2
    obtain ⟨h8, h9⟩ := ret_some hf
    rw [h8]
    exact W.vret hx hb hr (fun t ht hW => ⟨⟨(), rfl, trivial, by rw [ht]; exact hP, va_K.moved hW.alike hK, hD⟩, hS.F ht⟩) hS.2.2 dX5_addType_29

theorem md_X5_addStart_1 : (.fieldLink RX5 42 "ResourceLedger$Program" "startCount" "I" : Cond) ∈ wsX5_addStart := List.mem_of_getElem? (i := 1) rfl
theorem iwd_X5_addStart_X5 : ∀ w ∈ wsX50, w ∈ wsX5_addStart := fun _ h => List.mem_cons_of_mem _ (List.mem_append_right _ h)
theorem md_X5_addStart_2 : (.fieldLink RX5 15 "ResourceLedger$Program" "starts" "[I" : Cond) ∈ wsX5_addStart := List.mem_of_getElem? (i := 2) rfl
def fn_X5_addStart (F : Nat) (sh : Nat → Nat × Nat) (n : Nat) (z : St) (h0 : Nat) (x0 : Int32) : Option (St × Unit) := grd (okO sh n h0 5) (lnk (z.2.2 h0 5) (fun k_2 => grd (okO sh n k_2 101) (if ((Int32.ofNat (sh k_2).2) : Int32) ≤ (z.1 h0 6) then some (z, ()) else lnk (z.2.2 h0 5) (fun k_5 => lt_ (z.1 h0 6) (fun v_6 => lt_ (si z h0 6 (v_6 + 1)) (fun z_8 => grd (okA sh n k_5 101 v_6) (lt_ (si z_8 k_5 v_6.toNatClampNeg x0) (fun z_11 => some (z_11, ())))))))))
set_option maxHeartbeats 4000000 in
set_option maxRecDepth 100000 in
theorem de_X5_addStart (l : Launch) (dC : Nat → ClassId) (dI : Nat → Nat → Nat) (cy : Nat → ClassId) (a : Nat → Nat) (sh : Nat → Nat × Nat) (n sz : Nat) (F : Nat) (z : St) (h0 : Nat) (x0 : Int32) {z8 : St} {r8 : Unit} (hf : fn_X5_addStart F sh n z h0 x0 = some (z8, r8)) : Met l yX5_addStart wsX5_addStart ({ frames := 0, cells := 0, slots := 0, locals := 0 }) (va_Pc [.ref (a h0), .int x0] (fun U => U.heap.size = sz ∧ va_P (dC, dI) vwCl (Wd cy a sh n z) U.heap ∧ va_K (dC, dI) vwCl (TYS cy) U ∧ va_D (fun _ => True) (Wd cy a sh n z) ∧ NK U)) (va_Qv (fun u : Unit => True) (fun u t => va_P (dC, dI) vwCl (Wd cy a sh n z8) t.heap ∧ va_K (dC, dI) vwCl (TYS cy) t ∧ va_D (va_A (Wd cy a sh n z) sz) (Wd cy a sh n z8)) (va_A (Wd cy a sh n z) sz)) 0 0 (va_A (Wd cy a sh n z) sz) := by
  refine Met.ofW (cc := cX5_addStart) (maxL := 2) (ret := none) (by decide) rfl ?_
  intro p e s m args below meth c s₁ B hml hv
  obtain ⟨rfl, hsz, hP, hK, hD0, hN⟩ := hv
  have hx := B.exec
  have hb := B.bytes
  have hr := B.returns
  have hts := atoms_spec (ws := wsX5_addStart) B.pre
  have hown : s.vm.findClass RX5 = some m.cls := findClass_of_methodNamed B.named
  have hlocks := B.notSynchronized
  subst hsz
  have hD := hD0.self (sz := s.heap.size)
  clear hD0
  generalize hAe : va_A (Wd cy a sh n z) s.heap.size = A at hD ⊢
  have hA : ∀ q : Nat, s.heap.size ≤ q → A q := fun q h => by rw [← hAe]; exact Or.inr h
  clear hAe
  have hS : va_S A s.heap s.heap [] := va_S.rf
  have hl := lv_entry ([.ref (a h0), .int x0]) (n := 2) (Nat.le_of_ble_eq_true rfl)
  rw [lg_entry_eq]
  generalize (lg_sl ([.ref (a h0), .int x0]) ++ List.replicate (2 - (lg_sl ([.ref (a h0), .int x0])).length) Slot.unset).toArray = ls at hl ⊢
  replace hl : lv_has ls 2 [(0, .ref (a h0)), (1, .int x0)] := hl
  unfold fn_X5_addStart at hf
  refine de_start hS hP (fun H locs hS hP => ?_)
  refine lv_aload_n hx hb dX5_addStart_0 rfl (lv_at hl 0 rfl) ?_
  obtain ⟨g_1, hf⟩ := grd_some hf
  obtain ⟨kg_1, sg_1⟩ := okO_at g_1
  refine va_get (D := (dC, dI)) (ci := 5) (v := .int (z.1 h0 6)) (C := RX5) (T := TX5) (N := 15) hx hb hts iwd_X5_addStart_X5 hown hK hP h0 (Wd_ob kg_1 sg_1 (by decide)) rfl 6 (by decide) (hts _ md_X5_addStart_1) (fun _ h9 => h9) (fl_at (t := 0) rfl) dX5_addStart_1 ?_
  refine lv_aload_n hx hb dX5_addStart_4 rfl (lv_at hl 0 rfl) ?_
  obtain ⟨k_2, ek_2, hf⟩ := lnk_some hf
  refine va_get (D := (dC, dI)) (ci := 5) (v := .ref (a k_2)) (C := RX5) (T := TX5) (N := 15) hx hb hts iwd_X5_addStart_X5 hown hK hP h0 (Wd_ob kg_1 sg_1 (by decide)) rfl 5 (by decide) (hts _ md_X5_addStart_2) (fun _ h9 => h9) (fl_q rfl ek_2) dX5_addStart_5 ?_
  obtain ⟨g_3, hf⟩ := grd_some hf
  obtain ⟨kg_3, sg_3⟩ := okO_at g_3
  refine va_alen (v := Int32.ofNat (sh k_2).2) hx hb hK hP k_2 1 (Wd_ai kg_3 sg_3) rfl rfl dX5_addStart_8 ?_
  refine lv_icmp_ge (tgt := 29) hx hb dX5_addStart_9 (by decide) (fun c_4 => ?_) (fun c_4 => ?_)
  · skip
    rw [if_pos c_4] at hf
    obtain ⟨h8, h9⟩ := ret_some hf
    rw [h8]
    exact W.vret hx hb hr (fun t ht hW => ⟨⟨(), rfl, trivial, by rw [ht]; exact hP, va_K.moved hW.alike hK, hD⟩, hS.F ht⟩) hS.2.2 dX5_addStart_29
  · skip
    rw [if_neg c_4] at hf
    refine lv_aload_n hx hb dX5_addStart_12 rfl (lv_at hl 0 rfl) ?_
    obtain ⟨k_5, ek_5, hf⟩ := lnk_some hf
    refine va_get (D := (dC, dI)) (ci := 5) (v := .ref (a k_5)) (C := RX5) (T := TX5) (N := 15) hx hb hts iwd_X5_addStart_X5 hown hK hP h0 (Wd_ob kg_1 sg_1 (by decide)) rfl 5 (by decide) (hts _ md_X5_addStart_2) (fun _ h9 => h9) (fl_q rfl ek_5) dX5_addStart_13 ?_
    refine lv_aload_n hx hb dX5_addStart_16 rfl (lv_at hl 0 rfl) ?_
    refine lv_dup hx hb dX5_addStart_17 rfl ?_
    refine va_get (D := (dC, dI)) (ci := 5) (v := .int (z.1 h0 6)) (C := RX5) (T := TX5) (N := 15) hx hb hts iwd_X5_addStart_X5 hown hK hP h0 (Wd_ob kg_1 sg_1 (by decide)) rfl 6 (by decide) (hts _ md_X5_addStart_1) (fun _ h9 => h9) (fl_at (t := 0) rfl) dX5_addStart_18 ?_
    refine lv_topi (fun v_6 ev_6 => ?_)
    replace hf := lt_at ev_6 hf
    clear ev_6
    refine lv_dup_x1 hx hb dX5_addStart_21 rfl rfl ?_
    refine lv_iconst (v := 1) hx hb dX5_addStart_22 (by decide) ?_
    refine lv_iadd hx hb dX5_addStart_23 ?_
    refine va_put (D := (dC, dI)) (ci := 5) (v := .int (v_6 + 1)) (ty := .int) (C := RX5) (T := TX5) (N := 15) hx hb hts iwd_X5_addStart_X5 tyX5 tyX5_ok nmX5 hown hK hP hD hS h0 (Wd_ob kg_1 sg_1 (by decide)) rfl 6 (by decide) (hts _ md_X5_addStart_1) (fun _ h9 => h9) rfl (by decide +kernel) rfl rfl (by rw [fl_len]; decide) dX5_addStart_24 (fun H_7 locs hP2 hD2 hS2 => ?_)
    rw [Wd_si sg_1 (by decide) rfl] at hP2 hD2
    obtain ⟨z_8, ez_8⟩ : ∃ w, w = si z h0 6 (v_6 + 1) := ⟨_, rfl⟩
    rw [← ez_8] at hP2 hD2
    replace hf := lt_at ez_8 hf
    clear ez_8
    replace hP := hP2
    replace hD := hD2
    replace hS := hS2
    clear hP2 hD2 hS2
    refine lv_iload_n hx hb dX5_addStart_27 rfl (lv_at hl 1 rfl) ?_
    obtain ⟨g_9, hf⟩ := grd_some hf
    obtain ⟨kg_9, sg_9, ig_9⟩ := okA_at g_9
    refine va_iast hx hb hK hP hD hS k_5 1 (Wd_ai kg_9 sg_9) rfl ig_9 dX5_addStart_28 (fun H_10 locs hP2 hD2 hS2 => ?_)
    rw [Wd_ti sg_9] at hP2 hD2
    obtain ⟨z_11, ez_11⟩ : ∃ w, w = si z_8 k_5 v_6.toNatClampNeg x0 := ⟨_, rfl⟩
    rw [← ez_11] at hP2 hD2
    replace hf := lt_at ez_11 hf
    clear ez_11
    replace hP := hP2
    replace hD := hD2
    replace hS := hS2
    clear hP2 hD2 hS2
    obtain ⟨h8, h9⟩ := ret_some hf
    rw [h8]
    exact W.vret hx hb hr (fun t ht hW => ⟨⟨(), rfl, trivial, by rw [ht]; exact hP, va_K.moved hW.alike hK, hD⟩, hS.F ht⟩) hS.2.2 dX5_addStart_29

theorem md_X5_clear_1 : (.fieldLink RX5 36 "ResourceLedger$Program" "number" "I" : Cond) ∈ wsX5_clear := List.mem_of_getElem? (i := 1) rfl
theorem iwd_X5_clear_X5 : ∀ w ∈ wsX50, w ∈ wsX5_clear := fun _ h => List.mem_cons_of_mem _ (List.mem_append_right _ h)
theorem md_X5_clear_2 : (.fieldLink RX5 39 "ResourceLedger$Program" "typeCount" "I" : Cond) ∈ wsX5_clear := List.mem_of_getElem? (i := 2) rfl
theorem md_X5_clear_3 : (.fieldLink RX5 42 "ResourceLedger$Program" "startCount" "I" : Cond) ∈ wsX5_clear := List.mem_of_getElem? (i := 3) rfl
theorem md_X5_clear_4 : (.fieldLink RX5 45 "ResourceLedger$Program" "foreignFunctions" "I" : Cond) ∈ wsX5_clear := List.mem_of_getElem? (i := 4) rfl
def fn_X5_clear (F : Nat) (sh : Nat → Nat × Nat) (n : Nat) (z : St) (h0 : Nat) : Option (St × Unit) := grd (okO sh n h0 5) (lt_ (si z h0 2 0) (fun z_3 => lt_ (si z_3 h0 4 0) (fun z_5 => lt_ (si z_5 h0 6 0) (fun z_7 => lt_ (si z_7 h0 12 0) (fun z_9 => some (z_9, ()))))))
set_option maxHeartbeats 4000000 in
set_option maxRecDepth 100000 in
theorem de_X5_clear (l : Launch) (dC : Nat → ClassId) (dI : Nat → Nat → Nat) (cy : Nat → ClassId) (a : Nat → Nat) (sh : Nat → Nat × Nat) (n sz : Nat) (F : Nat) (z : St) (h0 : Nat) {z8 : St} {r8 : Unit} (hf : fn_X5_clear F sh n z h0 = some (z8, r8)) : Met l yX5_clear wsX5_clear ({ frames := 0, cells := 0, slots := 0, locals := 0 }) (va_Pc [.ref (a h0)] (fun U => U.heap.size = sz ∧ va_P (dC, dI) vwCl (Wd cy a sh n z) U.heap ∧ va_K (dC, dI) vwCl (TYS cy) U ∧ va_D (fun _ => True) (Wd cy a sh n z) ∧ NK U)) (va_Qv (fun u : Unit => True) (fun u t => va_P (dC, dI) vwCl (Wd cy a sh n z8) t.heap ∧ va_K (dC, dI) vwCl (TYS cy) t ∧ va_D (va_A (Wd cy a sh n z) sz) (Wd cy a sh n z8)) (va_A (Wd cy a sh n z) sz)) 0 0 (va_A (Wd cy a sh n z) sz) := by
  refine Met.ofW (cc := cX5_clear) (maxL := 1) (ret := none) (by decide) rfl ?_
  intro p e s m args below meth c s₁ B hml hv
  obtain ⟨rfl, hsz, hP, hK, hD0, hN⟩ := hv
  have hx := B.exec
  have hb := B.bytes
  have hr := B.returns
  have hts := atoms_spec (ws := wsX5_clear) B.pre
  have hown : s.vm.findClass RX5 = some m.cls := findClass_of_methodNamed B.named
  have hlocks := B.notSynchronized
  subst hsz
  have hD := hD0.self (sz := s.heap.size)
  clear hD0
  generalize hAe : va_A (Wd cy a sh n z) s.heap.size = A at hD ⊢
  have hA : ∀ q : Nat, s.heap.size ≤ q → A q := fun q h => by rw [← hAe]; exact Or.inr h
  clear hAe
  have hS : va_S A s.heap s.heap [] := va_S.rf
  have hl := lv_entry ([.ref (a h0)]) (n := 1) (Nat.le_of_ble_eq_true rfl)
  rw [lg_entry_eq]
  generalize (lg_sl ([.ref (a h0)]) ++ List.replicate (1 - (lg_sl ([.ref (a h0)])).length) Slot.unset).toArray = ls at hl ⊢
  replace hl : lv_has ls 1 [(0, .ref (a h0))] := hl
  unfold fn_X5_clear at hf
  refine de_start hS hP (fun H locs hS hP => ?_)
  refine lv_aload_n hx hb dX5_clear_0 rfl (lv_at hl 0 rfl) ?_
  refine lv_iconst (v := 0) hx hb dX5_clear_1 (by decide) ?_
  obtain ⟨g_1, hf⟩ := grd_some hf
  obtain ⟨kg_1, sg_1⟩ := okO_at g_1
  refine va_put (D := (dC, dI)) (ci := 5) (v := .int 0) (ty := .int) (C := RX5) (T := TX5) (N := 15) hx hb hts iwd_X5_clear_X5 tyX5 tyX5_ok nmX5 hown hK hP hD hS h0 (Wd_ob kg_1 sg_1 (by decide)) rfl 2 (by decide) (hts _ md_X5_clear_1) (fun _ h9 => h9) rfl (by decide +kernel) rfl rfl (by rw [fl_len]; decide) dX5_clear_2 (fun H_2 locs hP2 hD2 hS2 => ?_)
  rw [Wd_si sg_1 (by decide) rfl] at hP2 hD2
  obtain ⟨z_3, ez_3⟩ : ∃ w, w = si z h0 2 0 := ⟨_, rfl⟩
  rw [← ez_3] at hP2 hD2
  replace hf := lt_at ez_3 hf
  clear ez_3
  replace hP := hP2
  replace hD := hD2
  replace hS := hS2
  clear hP2 hD2 hS2
  refine lv_aload_n hx hb dX5_clear_5 rfl (lv_at hl 0 rfl) ?_
  refine lv_iconst (v := 0) hx hb dX5_clear_6 (by decide) ?_
  refine va_put (D := (dC, dI)) (ci := 5) (v := .int 0) (ty := .int) (C := RX5) (T := TX5) (N := 15) hx hb hts iwd_X5_clear_X5 tyX5 tyX5_ok nmX5 hown hK hP hD hS h0 (Wd_ob kg_1 sg_1 (by decide)) rfl 4 (by decide) (hts _ md_X5_clear_2) (fun _ h9 => h9) rfl (by decide +kernel) rfl rfl (by rw [fl_len]; decide) dX5_clear_7 (fun H_4 locs hP2 hD2 hS2 => ?_)
  rw [Wd_si sg_1 (by decide) rfl] at hP2 hD2
  obtain ⟨z_5, ez_5⟩ : ∃ w, w = si z_3 h0 4 0 := ⟨_, rfl⟩
  rw [← ez_5] at hP2 hD2
  replace hf := lt_at ez_5 hf
  clear ez_5
  replace hP := hP2
  replace hD := hD2
  replace hS := hS2
  clear hP2 hD2 hS2
  refine lv_aload_n hx hb dX5_clear_10 rfl (lv_at hl 0 rfl) ?_
  refine lv_iconst (v := 0) hx hb dX5_clear_11 (by decide) ?_
  refine va_put (D := (dC, dI)) (ci := 5) (v := .int 0) (ty := .int) (C := RX5) (T := TX5) (N := 15) hx hb hts iwd_X5_clear_X5 tyX5 tyX5_ok nmX5 hown hK hP hD hS h0 (Wd_ob kg_1 sg_1 (by decide)) rfl 6 (by decide) (hts _ md_X5_clear_3) (fun _ h9 => h9) rfl (by decide +kernel) rfl rfl (by rw [fl_len]; decide) dX5_clear_12 (fun H_6 locs hP2 hD2 hS2 => ?_)
  rw [Wd_si sg_1 (by decide) rfl] at hP2 hD2
  obtain ⟨z_7, ez_7⟩ : ∃ w, w = si z_5 h0 6 0 := ⟨_, rfl⟩
  rw [← ez_7] at hP2 hD2
  replace hf := lt_at ez_7 hf
  clear ez_7
  replace hP := hP2
  replace hD := hD2
  replace hS := hS2
  clear hP2 hD2 hS2
  refine lv_aload_n hx hb dX5_clear_15 rfl (lv_at hl 0 rfl) ?_
  refine lv_iconst (v := 0) hx hb dX5_clear_16 (by decide) ?_
  refine va_put (D := (dC, dI)) (ci := 5) (v := .int 0) (ty := .int) (C := RX5) (T := TX5) (N := 15) hx hb hts iwd_X5_clear_X5 tyX5 tyX5_ok nmX5 hown hK hP hD hS h0 (Wd_ob kg_1 sg_1 (by decide)) rfl 12 (by decide) (hts _ md_X5_clear_4) (fun _ h9 => h9) rfl (by decide +kernel) rfl rfl (by rw [fl_len]; decide) dX5_clear_17 (fun H_8 locs hP2 hD2 hS2 => ?_)
  rw [Wd_si sg_1 (by decide) rfl] at hP2 hD2
  obtain ⟨z_9, ez_9⟩ : ∃ w, w = si z_7 h0 12 0 := ⟨_, rfl⟩
  rw [← ez_9] at hP2 hD2
  replace hf := lt_at ez_9 hf
  clear ez_9
  replace hP := hP2
  replace hD := hD2
  replace hS := hS2
  clear hP2 hD2 hS2
  obtain ⟨h8, h9⟩ := ret_some hf
  rw [h8]
  exact W.vret hx hb hr (fun t ht hW => ⟨⟨(), rfl, trivial, by rw [ht]; exact hP, va_K.moved hW.alike hK, hD⟩, hS.F ht⟩) hS.2.2 dX5_clear_20

theorem md_X6_fail_1 : (.fieldLink RX6 21 "ResourceLedger$Reader" "fault" "I" : Cond) ∈ wsX6_fail := List.mem_of_getElem? (i := 1) rfl
theorem iwd_X6_fail_X6 : ∀ w ∈ wsX60, w ∈ wsX6_fail := fun _ h => List.mem_cons_of_mem _ (List.mem_append_right _ h)
theorem md_X6_fail_2 : (.fieldLink RX6 25 "ResourceLedger$Reader" "place" "I" : Cond) ∈ wsX6_fail := List.mem_of_getElem? (i := 2) rfl
def fn_X6_fail (F : Nat) (sh : Nat → Nat × Nat) (n : Nat) (z : St) (h0 : Nat) (x0 : Int32) (x1 : Int32) : Option (St × Unit) := grd (okO sh n h0 6) (if ((z.1 h0 1) : Int32) = 0 then lt_ (si z h0 1 x0) (fun z_4 => lt_ (si z_4 h0 0 x1) (fun z_6 => some (z_6, ()))) else some (z, ()))
set_option maxHeartbeats 4000000 in
set_option maxRecDepth 100000 in
theorem de_X6_fail (l : Launch) (dC : Nat → ClassId) (dI : Nat → Nat → Nat) (cy : Nat → ClassId) (a : Nat → Nat) (sh : Nat → Nat × Nat) (n sz : Nat) (F : Nat) (z : St) (h0 : Nat) (x0 : Int32) (x1 : Int32) {z8 : St} {r8 : Unit} (hf : fn_X6_fail F sh n z h0 x0 x1 = some (z8, r8)) : Met l yX6_fail wsX6_fail ({ frames := 0, cells := 0, slots := 0, locals := 0 }) (va_Pc [.ref (a h0), .int x0, .int x1] (fun U => U.heap.size = sz ∧ va_P (dC, dI) vwCl (Wd cy a sh n z) U.heap ∧ va_K (dC, dI) vwCl (TYS cy) U ∧ va_D (fun _ => True) (Wd cy a sh n z) ∧ NK U)) (va_Qv (fun u : Unit => True) (fun u t => va_P (dC, dI) vwCl (Wd cy a sh n z8) t.heap ∧ va_K (dC, dI) vwCl (TYS cy) t ∧ va_D (va_A (Wd cy a sh n z) sz) (Wd cy a sh n z8)) (va_A (Wd cy a sh n z) sz)) 0 0 (va_A (Wd cy a sh n z) sz) := by
  refine Met.ofW (cc := cX6_fail) (maxL := 3) (ret := none) (by decide) rfl ?_
  intro p e s m args below meth c s₁ B hml hv
  obtain ⟨rfl, hsz, hP, hK, hD0, hN⟩ := hv
  have hx := B.exec
  have hb := B.bytes
  have hr := B.returns
  have hts := atoms_spec (ws := wsX6_fail) B.pre
  have hown : s.vm.findClass RX6 = some m.cls := findClass_of_methodNamed B.named
  have hlocks := B.notSynchronized
  subst hsz
  have hD := hD0.self (sz := s.heap.size)
  clear hD0
  generalize hAe : va_A (Wd cy a sh n z) s.heap.size = A at hD ⊢
  have hA : ∀ q : Nat, s.heap.size ≤ q → A q := fun q h => by rw [← hAe]; exact Or.inr h
  clear hAe
  have hS : va_S A s.heap s.heap [] := va_S.rf
  have hl := lv_entry ([.ref (a h0), .int x0, .int x1]) (n := 3) (Nat.le_of_ble_eq_true rfl)
  rw [lg_entry_eq]
  generalize (lg_sl ([.ref (a h0), .int x0, .int x1]) ++ List.replicate (3 - (lg_sl ([.ref (a h0), .int x0, .int x1])).length) Slot.unset).toArray = ls at hl ⊢
  replace hl : lv_has ls 3 [(0, .ref (a h0)), (1, .int x0), (2, .int x1)] := hl
  unfold fn_X6_fail at hf
  refine de_start hS hP (fun H locs hS hP => ?_)
  refine lv_aload_n hx hb dX6_fail_0 rfl (lv_at hl 0 rfl) ?_
  obtain ⟨g_1, hf⟩ := grd_some hf
  obtain ⟨kg_1, sg_1⟩ := okO_at g_1
  refine va_get (D := (dC, dI)) (ci := 6) (v := .int (z.1 h0 1)) (C := RX6) (T := TX6) (N := 9) hx hb hts iwd_X6_fail_X6 hown hK hP h0 (Wd_ob kg_1 sg_1 (by decide)) rfl 1 (by decide) (hts _ md_X6_fail_1) (fun _ h9 => h9) (fl_at (t := 0) rfl) dX6_fail_1 ?_
  refine lv_if_ne (tgt := 17) hx hb dX6_fail_4 (by decide) (fun c_2 => ?_) (fun c_2 => ?_)
  · skip
    rw [if_neg c_2] at hf
    obtain ⟨h8, h9⟩ := ret_some hf
    rw [h8]
    exact W.vret hx hb hr (fun t ht hW => ⟨⟨(), rfl, trivial, by rw [ht]; exact hP, va_K.moved hW.alike hK, hD⟩, hS.F ht⟩) hS.2.2 dX6_fail_17
  · skip
    rw [if_pos c_2] at hf
    refine lv_aload_n hx hb dX6_fail_7 rfl (lv_at hl 0 rfl) ?_
    refine lv_iload_n hx hb dX6_fail_8 rfl (lv_at hl 1 rfl) ?_
    refine va_put (D := (dC, dI)) (ci := 6) (v := .int x0) (ty := .int) (C := RX6) (T := TX6) (N := 9) hx hb hts iwd_X6_fail_X6 tyX6 tyX6_ok nmX6 hown hK hP hD hS h0 (Wd_ob kg_1 sg_1 (by decide)) rfl 1 (by decide) (hts _ md_X6_fail_1) (fun _ h9 => h9) rfl (by decide +kernel) rfl rfl (by rw [fl_len]; decide) dX6_fail_9 (fun H_3 locs hP2 hD2 hS2 => ?_)
    rw [Wd_si sg_1 (by decide) rfl] at hP2 hD2
    obtain ⟨z_4, ez_4⟩ : ∃ w, w = si z h0 1 x0 := ⟨_, rfl⟩
    rw [← ez_4] at hP2 hD2
    replace hf := lt_at ez_4 hf
    clear ez_4
    replace hP := hP2
    replace hD := hD2
    replace hS := hS2
    clear hP2 hD2 hS2
    refine lv_aload_n hx hb dX6_fail_12 rfl (lv_at hl 0 rfl) ?_
    refine lv_iload_n hx hb dX6_fail_13 rfl (lv_at hl 2 rfl) ?_
    refine va_put (D := (dC, dI)) (ci := 6) (v := .int x1) (ty := .int) (C := RX6) (T := TX6) (N := 9) hx hb hts iwd_X6_fail_X6 tyX6 tyX6_ok nmX6 hown hK hP hD hS h0 (Wd_ob kg_1 sg_1 (by decide)) rfl 0 (by decide) (hts _ md_X6_fail_2) (fun _ h9 => h9) rfl (by decide +kernel) rfl rfl (by rw [fl_len]; decide) dX6_fail_14 (fun H_5 locs hP2 hD2 hS2 => ?_)
    rw [Wd_si sg_1 (by decide) rfl] at hP2 hD2
    obtain ⟨z_6, ez_6⟩ : ∃ w, w = si z_4 h0 0 x1 := ⟨_, rfl⟩
    rw [← ez_6] at hP2 hD2
    replace hf := lt_at ez_6 hf
    clear ez_6
    replace hP := hP2
    replace hD := hD2
    replace hS := hS2
    clear hP2 hD2 hS2
    obtain ⟨h8, h9⟩ := ret_some hf
    rw [h8]
    exact W.vret hx hb hr (fun t ht hW => ⟨⟨(), rfl, trivial, by rw [ht]; exact hP, va_K.moved hW.alike hK, hD⟩, hS.F ht⟩) hS.2.2 dX6_fail_17

theorem md_X6_readByte_1 : (.fieldLink RX6 21 "ResourceLedger$Reader" "fault" "I" : Cond) ∈ wsX6_readByte := List.mem_of_getElem? (i := 1) rfl
theorem iwd_X6_readByte_X6 : ∀ w ∈ wsX60, w ∈ wsX6_readByte := fun _ h => List.mem_cons_of_mem _ (List.mem_append_left _ (List.mem_append_right _ h))
theorem md_X6_readByte_2 : (.fieldLink RX6 32 "ResourceLedger$Reader" "at" "I" : Cond) ∈ wsX6_readByte := List.mem_of_getElem? (i := 2) rfl
theorem md_X6_readByte_3 : (.fieldLink RX6 17 "ResourceLedger$Reader" "p" "LResourceLedger$Program;" : Cond) ∈ wsX6_readByte := List.mem_of_getElem? (i := 3) rfl
theorem md_X6_readByte_4 : (.fieldLink RX6 73 "ResourceLedger$Program" "length" "I" : Cond) ∈ wsX6_readByte := List.mem_of_getElem? (i := 4) rfl
theorem iwd_X6_readByte_X5 : ∀ w ∈ wsX50, w ∈ wsX6_readByte := fun _ h => List.mem_cons_of_mem _ (List.mem_append_right _ h)
theorem md_X6_readByte_6 : (.fieldLink RX6 83 "ResourceLedger$Program" "bytes" "[B" : Cond) ∈ wsX6_readByte := List.mem_of_getElem? (i := 6) rfl
theorem md_X6_readByte_5 : (.fieldLink RX6 25 "ResourceLedger$Reader" "place" "I" : Cond) ∈ wsX6_readByte := List.mem_of_getElem? (i := 5) rfl
def fn_X6_readByte (F : Nat) (sh : Nat → Nat × Nat) (n : Nat) (z : St) (h0 : Nat) : Option (St × Int32) := grd (okO sh n h0 6) (if ((z.1 h0 1) : Int32) = 0 then lnk (z.2.2 h0 2) (fun k_3 => grd (okO sh n k_3 5) (if ((z.1 h0 3) : Int32) < (z.1 k_3 1) then lnk (z.2.2 h0 2) (fun k_6 => grd (okO sh n k_6 5) (lnk (z.2.2 k_6 0) (fun k_8 => lt_ (z.1 h0 3) (fun v_9 => lt_ (si z h0 3 (v_9 + 1)) (fun z_11 => grd (okA sh n k_8 100 v_9) (some (z_11, ((z_11.1 k_8 v_9.toNatClampNeg) &&& 255)))))))) else lt_ (si z h0 1 2) (fun z_14 => lnk (z_14.2.2 h0 2) (fun k_15 => grd (okO sh n k_15 5) (lt_ (si z_14 h0 0 (z_14.1 k_15 1)) (fun z_18 => some (z_18, 0))))))) else some (z, 0))
set_option maxHeartbeats 4000000 in
set_option maxRecDepth 100000 in
theorem de_X6_readByte (l : Launch) (dC : Nat → ClassId) (dI : Nat → Nat → Nat) (cy : Nat → ClassId) (a : Nat → Nat) (sh : Nat → Nat × Nat) (n sz : Nat) (F : Nat) (z : St) (h0 : Nat) {z8 : St} {r8 : Int32} (hf : fn_X6_readByte F sh n z h0 = some (z8, r8)) : Met l yX6_readByte wsX6_readByte ({ frames := 0, cells := 0, slots := 0, locals := 0 }) (va_Pc [.ref (a h0)] (fun U => U.heap.size = sz ∧ va_P (dC, dI) vwCl (Wd cy a sh n z) U.heap ∧ va_K (dC, dI) vwCl (TYS cy) U ∧ va_D (fun _ => True) (Wd cy a sh n z) ∧ NK U)) (va_Qi (fun (r9 : Int32) (u : Unit) => r9 = r8) (fun u t => va_P (dC, dI) vwCl (Wd cy a sh n z8) t.heap ∧ va_K (dC, dI) vwCl (TYS cy) t ∧ va_D (va_A (Wd cy a sh n z) sz) (Wd cy a sh n z8)) (va_A (Wd cy a sh n z) sz)) 0 0 (va_A (Wd cy a sh n z) sz) := by
  refine Met.ofW (cc := cX6_readByte) (maxL := 1) (ret := (some .int)) (by decide) rfl ?_
  intro p e s m args below meth c s₁ B hml hv
  obtain ⟨rfl, hsz, hP, hK, hD0, hN⟩ := hv
  have hx := B.exec
  have hb := B.bytes
  have hr := B.returns
  have hts := atoms_spec (ws := wsX6_readByte) B.pre
  have hown : s.vm.findClass RX6 = some m.cls := findClass_of_methodNamed B.named
  have hlocks := B.notSynchronized
  subst hsz
  have hD := hD0.self (sz := s.heap.size)
  clear hD0
  generalize hAe : va_A (Wd cy a sh n z) s.heap.size = A at hD ⊢
  have hA : ∀ q : Nat, s.heap.size ≤ q → A q := fun q h => by rw [← hAe]; exact Or.inr h
  clear hAe
  have hS : va_S A s.heap s.heap [] := va_S.rf
  have hl := lv_entry ([.ref (a h0)]) (n := 1) (Nat.le_of_ble_eq_true rfl)
  rw [lg_entry_eq]
  generalize (lg_sl ([.ref (a h0)]) ++ List.replicate (1 - (lg_sl ([.ref (a h0)])).length) Slot.unset).toArray = ls at hl ⊢
  replace hl : lv_has ls 1 [(0, .ref (a h0))] := hl
  unfold fn_X6_readByte at hf
  refine de_start hS hP (fun H locs hS hP => ?_)
  refine lv_aload_n hx hb dX6_readByte_0 rfl (lv_at hl 0 rfl) ?_
  obtain ⟨g_1, hf⟩ := grd_some hf
  obtain ⟨kg_1, sg_1⟩ := okO_at g_1
  refine va_get (D := (dC, dI)) (ci := 6) (v := .int (z.1 h0 1)) (C := RX6) (T := TX6) (N := 9) hx hb hts iwd_X6_readByte_X6 hown hK hP h0 (Wd_ob kg_1 sg_1 (by decide)) rfl 1 (by decide) (hts _ md_X6_readByte_1) (fun _ h9 => h9) (fl_at (t := 0) rfl) dX6_readByte_1 ?_
  refine lv_if_eq (tgt := 9) hx hb dX6_readByte_4 (by decide) (fun c_2 => ?_) (fun c_2 => ?_)
  · skip
    rw [if_pos c_2] at hf
    refine lv_aload_n hx hb dX6_readByte_9 rfl (lv_at hl 0 rfl) ?_
    refine va_get (D := (dC, dI)) (ci := 6) (v := .int (z.1 h0 3)) (C := RX6) (T := TX6) (N := 9) hx hb hts iwd_X6_readByte_X6 hown hK hP h0 (Wd_ob kg_1 sg_1 (by decide)) rfl 3 (by decide) (hts _ md_X6_readByte_2) (fun _ h9 => h9) (fl_at (t := 0) rfl) dX6_readByte_10 ?_
    refine lv_aload_n hx hb dX6_readByte_13 rfl (lv_at hl 0 rfl) ?_
    obtain ⟨k_3, ek_3, hf⟩ := lnk_some hf
    refine va_get (D := (dC, dI)) (ci := 6) (v := .ref (a k_3)) (C := RX6) (T := TX6) (N := 9) hx hb hts iwd_X6_readByte_X6 hown hK hP h0 (Wd_ob kg_1 sg_1 (by decide)) rfl 2 (by decide) (hts _ md_X6_readByte_3) (fun _ h9 => h9) (fl_q rfl ek_3) dX6_readByte_14 ?_
    obtain ⟨g_4, hf⟩ := grd_some hf
    obtain ⟨kg_4, sg_4⟩ := okO_at g_4
    refine va_get (D := (dC, dI)) (ci := 5) (v := .int (z.1 k_3 1)) (C := RX5) (T := TX5) (N := 15) hx hb hts iwd_X6_readByte_X5 hown hK hP k_3 (Wd_ob kg_4 sg_4 (by decide)) rfl 1 (by decide) (hts _ md_X6_readByte_4) (fun _ h9 => h9) (fl_at (t := 0) rfl) dX6_readByte_17 ?_
    refine lv_icmp_lt (tgt := 41) hx hb dX6_readByte_20 (by decide) (fun c_5 => ?_) (fun c_5 => ?_)
    · skip
      rw [if_pos c_5] at hf
      refine lv_aload_n hx hb dX6_readByte_41 rfl (lv_at hl 0 rfl) ?_
      obtain ⟨k_6, ek_6, hf⟩ := lnk_some hf
      refine va_get (D := (dC, dI)) (ci := 6) (v := .ref (a k_6)) (C := RX6) (T := TX6) (N := 9) hx hb hts iwd_X6_readByte_X6 hown hK hP h0 (Wd_ob kg_1 sg_1 (by decide)) rfl 2 (by decide) (hts _ md_X6_readByte_3) (fun _ h9 => h9) (fl_q rfl ek_6) dX6_readByte_42 ?_
      obtain ⟨g_7, hf⟩ := grd_some hf
      obtain ⟨kg_7, sg_7⟩ := okO_at g_7
      obtain ⟨k_8, ek_8, hf⟩ := lnk_some hf
      refine va_get (D := (dC, dI)) (ci := 5) (v := .ref (a k_8)) (C := RX5) (T := TX5) (N := 15) hx hb hts iwd_X6_readByte_X5 hown hK hP k_6 (Wd_ob kg_7 sg_7 (by decide)) rfl 0 (by decide) (hts _ md_X6_readByte_6) (fun _ h9 => h9) (fl_q rfl ek_8) dX6_readByte_45 ?_
      refine lv_aload_n hx hb dX6_readByte_48 rfl (lv_at hl 0 rfl) ?_
      refine lv_dup hx hb dX6_readByte_49 rfl ?_
      refine va_get (D := (dC, dI)) (ci := 6) (v := .int (z.1 h0 3)) (C := RX6) (T := TX6) (N := 9) hx hb hts iwd_X6_readByte_X6 hown hK hP h0 (Wd_ob kg_1 sg_1 (by decide)) rfl 3 (by decide) (hts _ md_X6_readByte_2) (fun _ h9 => h9) (fl_at (t := 0) rfl) dX6_readByte_50 ?_
      refine lv_topi (fun v_9 ev_9 => ?_)
      replace hf := lt_at ev_9 hf
      clear ev_9
      refine lv_dup_x1 hx hb dX6_readByte_53 rfl rfl ?_
      refine lv_iconst (v := 1) hx hb dX6_readByte_54 (by decide) ?_
      refine lv_iadd hx hb dX6_readByte_55 ?_
      refine va_put (D := (dC, dI)) (ci := 6) (v := .int (v_9 + 1)) (ty := .int) (C := RX6) (T := TX6) (N := 9) hx hb hts iwd_X6_readByte_X6 tyX6 tyX6_ok nmX6 hown hK hP hD hS h0 (Wd_ob kg_1 sg_1 (by decide)) rfl 3 (by decide) (hts _ md_X6_readByte_2) (fun _ h9 => h9) rfl (by decide +kernel) rfl rfl (by rw [fl_len]; decide) dX6_readByte_56 (fun H_10 locs hP2 hD2 hS2 => ?_)
      rw [Wd_si sg_1 (by decide) rfl] at hP2 hD2
      obtain ⟨z_11, ez_11⟩ : ∃ w, w = si z h0 3 (v_9 + 1) := ⟨_, rfl⟩
      rw [← ez_11] at hP2 hD2
      replace hf := lt_at ez_11 hf
      clear ez_11
      replace hP := hP2
      replace hD := hD2
      replace hS := hS2
      clear hP2 hD2 hS2
      obtain ⟨g_12, hf⟩ := grd_some hf
      obtain ⟨kg_12, sg_12, ig_12⟩ := okA_at g_12
      refine va_bald hx hb hK hP k_8 0 (Wd_ab kg_12 sg_12) rfl ig_12 dX6_readByte_59 ?_
      refine lv_sipush (v := 255) hx hb dX6_readByte_60 (by decide) ?_
      refine lv_iand hx hb dX6_readByte_63 ?_
      obtain ⟨h8, h9⟩ := ret_some hf
      rw [h8, h9]
      exact W.iret (v := ((z_11.1 k_8 v_9.toNatClampNeg) &&& 255)) hx hb hr (fun t ht hW => ⟨⟨((z_11.1 k_8 v_9.toNatClampNeg) &&& 255), (), rfl, rfl, by rw [ht]; exact hP, va_K.moved hW.alike hK, hD⟩, hS.F ht⟩) hS.2.2 dX6_readByte_64
    · skip
      rw [if_neg c_5] at hf
      refine lv_aload_n hx hb dX6_readByte_23 rfl (lv_at hl 0 rfl) ?_
      refine lv_iconst (v := 2) hx hb dX6_readByte_24 (by decide) ?_
      refine va_put (D := (dC, dI)) (ci := 6) (v := .int 2) (ty := .int) (C := RX6) (T := TX6) (N := 9) hx hb hts iwd_X6_readByte_X6 tyX6 tyX6_ok nmX6 hown hK hP hD hS h0 (Wd_ob kg_1 sg_1 (by decide)) rfl 1 (by decide) (hts _ md_X6_readByte_1) (fun _ h9 => h9) rfl (by decide +kernel) rfl rfl (by rw [fl_len]; decide) dX6_readByte_25 (fun H_13 locs hP2 hD2 hS2 => ?_)
      rw [Wd_si sg_1 (by decide) rfl] at hP2 hD2
      obtain ⟨z_14, ez_14⟩ : ∃ w, w = si z h0 1 2 := ⟨_, rfl⟩
      rw [← ez_14] at hP2 hD2
      replace hf := lt_at ez_14 hf
      clear ez_14
      replace hP := hP2
      replace hD := hD2
      replace hS := hS2
      clear hP2 hD2 hS2
      refine lv_aload_n hx hb dX6_readByte_28 rfl (lv_at hl 0 rfl) ?_
      refine lv_aload_n hx hb dX6_readByte_29 rfl (lv_at hl 0 rfl) ?_
      obtain ⟨k_15, ek_15, hf⟩ := lnk_some hf
      refine va_get (D := (dC, dI)) (ci := 6) (v := .ref (a k_15)) (C := RX6) (T := TX6) (N := 9) hx hb hts iwd_X6_readByte_X6 hown hK hP h0 (Wd_ob kg_1 sg_1 (by decide)) rfl 2 (by decide) (hts _ md_X6_readByte_3) (fun _ h9 => h9) (fl_q rfl ek_15) dX6_readByte_30 ?_
      obtain ⟨g_16, hf⟩ := grd_some hf
      obtain ⟨kg_16, sg_16⟩ := okO_at g_16
      refine va_get (D := (dC, dI)) (ci := 5) (v := .int (z_14.1 k_15 1)) (C := RX5) (T := TX5) (N := 15) hx hb hts iwd_X6_readByte_X5 hown hK hP k_15 (Wd_ob kg_16 sg_16 (by decide)) rfl 1 (by decide) (hts _ md_X6_readByte_4) (fun _ h9 => h9) (fl_at (t := 0) rfl) dX6_readByte_33 ?_
      refine va_put (D := (dC, dI)) (ci := 6) (v := .int (z_14.1 k_15 1)) (ty := .int) (C := RX6) (T := TX6) (N := 9) hx hb hts iwd_X6_readByte_X6 tyX6 tyX6_ok nmX6 hown hK hP hD hS h0 (Wd_ob kg_1 sg_1 (by decide)) rfl 0 (by decide) (hts _ md_X6_readByte_5) (fun _ h9 => h9) rfl (by decide +kernel) rfl rfl (by rw [fl_len]; decide) dX6_readByte_36 (fun H_17 locs hP2 hD2 hS2 => ?_)
      rw [Wd_si sg_1 (by decide) rfl] at hP2 hD2
      obtain ⟨z_18, ez_18⟩ : ∃ w, w = si z_14 h0 0 (z_14.1 k_15 1) := ⟨_, rfl⟩
      rw [← ez_18] at hP2 hD2
      replace hf := lt_at ez_18 hf
      clear ez_18
      replace hP := hP2
      replace hD := hD2
      replace hS := hS2
      clear hP2 hD2 hS2
      refine lv_iconst (v := 0) hx hb dX6_readByte_39 (by decide) ?_
      obtain ⟨h8, h9⟩ := ret_some hf
      rw [h8, h9]
      exact W.iret (v := 0) hx hb hr (fun t ht hW => ⟨⟨0, (), rfl, rfl, by rw [ht]; exact hP, va_K.moved hW.alike hK, hD⟩, hS.F ht⟩) hS.2.2 dX6_readByte_40
  · skip
    rw [if_neg c_2] at hf
    refine lv_iconst (v := 0) hx hb dX6_readByte_7 (by decide) ?_
    obtain ⟨h8, h9⟩ := ret_some hf
    rw [h8, h9]
    exact W.iret (v := 0) hx hb hr (fun t ht hW => ⟨⟨0, (), rfl, rfl, by rw [ht]; exact hP, va_K.moved hW.alike hK, hD⟩, hS.F ht⟩) hS.2.2 dX6_readByte_8

def fn_X6_readShort (F : Nat) (sh : Nat → Nat × Nat) (n : Nat) (z : St) (h0 : Nat) : Option (St × Int32) := grd (okO sh n h0 6) (cal (fn_X6_readByte F sh n z h0) (fun z_1 r_2 => cal (fn_X6_readByte F sh n z_1 h0) (fun z_5 r_6 => some (z_5, ((r_2 <<< (8 &&& 31)) ||| r_6)))))
set_option maxHeartbeats 4000000 in
set_option maxRecDepth 100000 in
theorem de_X6_readShort (l : Launch) (dC : Nat → ClassId) (dI : Nat → Nat → Nat) (cy : Nat → ClassId) (a : Nat → Nat) (sh : Nat → Nat × Nat) (n sz : Nat) (F : Nat) (z : St) (h0 : Nat) {z8 : St} {r8 : Int32} (hf : fn_X6_readShort F sh n z h0 = some (z8, r8)) : Met l yX6_readShort wsX6_readShort ({ frames := 1, cells := 0, slots := 0, locals := 20 }) (va_Pc [.ref (a h0)] (fun U => U.heap.size = sz ∧ va_P (dC, dI) vwCl (Wd cy a sh n z) U.heap ∧ va_K (dC, dI) vwCl (TYS cy) U ∧ va_D (fun _ => True) (Wd cy a sh n z) ∧ NK U)) (va_Qi (fun (r9 : Int32) (u : Unit) => r9 = r8) (fun u t => va_P (dC, dI) vwCl (Wd cy a sh n z8) t.heap ∧ va_K (dC, dI) vwCl (TYS cy) t ∧ va_D (va_A (Wd cy a sh n z) sz) (Wd cy a sh n z8)) (va_A (Wd cy a sh n z) sz)) 0 0 (va_A (Wd cy a sh n z) sz) := by
  refine Met.ofW (cc := cX6_readShort) (maxL := 2) (ret := (some .int)) (by decide) rfl ?_
  intro p e s m args below meth c s₁ B hml hv
  obtain ⟨rfl, hsz, hP, hK, hD0, hN⟩ := hv
  have hx := B.exec
  have hb := B.bytes
  have hr := B.returns
  have hts := atoms_spec (ws := wsX6_readShort) B.pre
  have hown : s.vm.findClass RX6 = some m.cls := findClass_of_methodNamed B.named
  have hlocks := B.notSynchronized
  subst hsz
  have hD := hD0.self (sz := s.heap.size)
  clear hD0
  generalize hAe : va_A (Wd cy a sh n z) s.heap.size = A at hD ⊢
  have hA : ∀ q : Nat, s.heap.size ≤ q → A q := fun q h => by rw [← hAe]; exact Or.inr h
  clear hAe
  have hS : va_S A s.heap s.heap [] := va_S.rf
  have hl := lv_entry ([.ref (a h0)]) (n := 2) (Nat.le_of_ble_eq_true rfl)
  rw [lg_entry_eq]
  generalize (lg_sl ([.ref (a h0)]) ++ List.replicate (2 - (lg_sl ([.ref (a h0)])).length) Slot.unset).toArray = ls at hl ⊢
  replace hl : lv_has ls 2 [(0, .ref (a h0))] := hl
  unfold fn_X6_readShort at hf
  refine de_start hS hP (fun H locs hS hP => ?_)
  refine lv_aload_n hx hb dX6_readShort_0 rfl (lv_at hl 0 rfl) ?_
  obtain ⟨g_3, hf⟩ := grd_some hf
  obtain ⟨kg_3, sg_3⟩ := okO_at g_3
  obtain ⟨z_1, r_2, hfc, hf⟩ := cal_some hf
  have hFc := de_free hD hS hA
  refine va_calli (va_runV (As := []) (rest := []) ⟨hx, hb, hml, hown, hts⟩ (de_X6_readByte l dC dI cy a sh n H.size F z h0 hfc) (cwV 0 hts gX6_readShort_X6_readByte rfl rfl rfl (by decide +kernel) ⟨Nat.le_of_ble_eq_true rfl, Nat.le_of_ble_eq_true rfl⟩) ⟨fun a U g mk q => by obtain ⟨q0, q1, qP, qK, qD, qN⟩ := q; exact ⟨q0, q1, qP, va_K.moved (u := U) (U := U.calling g mk a) (Vm.Alike.refl U.vm) qK, qD, qN.same rfl⟩, va_recv hK hP (ci := 6) (q0 := h0) rfl (Wd_ob kg_3 sg_3 (by decide)), fun U hU hW => ⟨rfl, by rw [hU], by rw [hU]; exact hP, va_K.moved hW.alike hK, hD.weaken (fun _ _ _ _ => trivial), hN.warm hW⟩⟩ rfl rfl hl.1 rfl (lv_room (Nat.le_of_ble_eq_true rfl)) dX6_readShort_1 ⟨Nat.le_of_ble_eq_true rfl, Nat.le_of_ble_eq_true rfl⟩) hS (fun q _ h => hFc q h) hFc (fun rr u t H_4 locs ht hvm hw hB hz1 hk1 hS2 => ?_)
  rw [hw]
  clear hw
  obtain ⟨hP1, -, hD1⟩ := hB
  rw [ht] at hP1
  replace hD := hD1.weaken (fun _ _ _ h => hFc _ h)
  replace hP := hP1
  replace hS := hS2
  clear hP1 hD1 hS2 hFc hfc hz1 hk1 hvm ht
  refine lv_istore_n (lv' := [(1, .int r_2), (0, .ref (a h0))]) hx hb dX6_readShort_4 rfl hl (by decide) rfl (fun ls hl2 => ?_)
  replace hl := hl2
  clear hl2
  refine lv_iload_n hx hb dX6_readShort_5 rfl (lv_at hl 0 rfl) ?_
  refine lv_bipush (v := 8) hx hb dX6_readShort_6 (by decide) ?_
  refine lv_ishl hx hb dX6_readShort_8 ?_
  refine lv_aload_n hx hb dX6_readShort_9 rfl (lv_at hl 1 rfl) ?_
  obtain ⟨z_5, r_6, hfc, hf⟩ := cal_some hf
  have hFc := de_free hD hS hA
  refine va_calli (va_runV (As := []) (rest := [.int (r_2 <<< (8 &&& 31))]) ⟨hx, hb, hml, hown, hts⟩ (de_X6_readByte l dC dI cy a sh n H_4.size F z_1 h0 hfc) (cwV 0 hts gX6_readShort_X6_readByte rfl rfl rfl (by decide +kernel) ⟨Nat.le_of_ble_eq_true rfl, Nat.le_of_ble_eq_true rfl⟩) ⟨fun a U g mk q => by obtain ⟨q0, q1, qP, qK, qD, qN⟩ := q; exact ⟨q0, q1, qP, va_K.moved (u := U) (U := U.calling g mk a) (Vm.Alike.refl U.vm) qK, qD, qN.same rfl⟩, va_recv hK hP (ci := 6) (q0 := h0) rfl (Wd_ob kg_3 sg_3 (by decide)), fun U hU hW => ⟨rfl, by rw [hU], by rw [hU]; exact hP, va_K.moved hW.alike hK, hD.weaken (fun _ _ _ _ => trivial), hN.warm hW⟩⟩ rfl rfl hl.1 rfl (lv_room (Nat.le_of_ble_eq_true rfl)) dX6_readShort_10 ⟨Nat.le_of_ble_eq_true rfl, Nat.le_of_ble_eq_true rfl⟩) hS (fun q _ h => hFc q h) hFc (fun rr u t H_7 locs ht hvm hw hB hz1 hk1 hS2 => ?_)
  rw [hw]
  clear hw
  obtain ⟨hP1, -, hD1⟩ := hB
  rw [ht] at hP1
  replace hD := hD1.weaken (fun _ _ _ h => hFc _ h)
  replace hP := hP1
  replace hS := hS2
  clear hP1 hD1 hS2 hFc hfc hz1 hk1 hvm ht
  refine lv_ior hx hb dX6_readShort_13 ?_
  obtain ⟨h8, h9⟩ := ret_some hf
  rw [h8, h9]
  exact W.iret (v := ((r_2 <<< (8 &&& 31)) ||| r_6)) hx hb hr (fun t ht hW => ⟨⟨((r_2 <<< (8 &&& 31)) ||| r_6), (), rfl, rfl, by rw [ht]; exact hP, va_K.moved hW.alike hK, hD⟩, hS.F ht⟩) hS.2.2 dX6_readShort_14

theorem md_X6_readNumber_1 : (.fieldLink RX6 32 "ResourceLedger$Reader" "at" "I" : Cond) ∈ wsX6_readNumber := List.mem_of_getElem? (i := 1) rfl
theorem iwd_X6_readNumber_X6 : ∀ w ∈ wsX60, w ∈ wsX6_readNumber := fun _ h => List.mem_cons_of_mem _ (List.mem_append_left _ (List.mem_append_right _ h))
theorem md_X6_readNumber_2 : (.fieldLink RX6 21 "ResourceLedger$Reader" "fault" "I" : Cond) ∈ wsX6_readNumber := List.mem_of_getElem? (i := 2) rfl
def fn_X6_readNumber_B29 (F : Nat) (sh : Nat → Nat × Nat) (n : Nat) (h0 : Nat) (r_4 : Int32) (z_6 : St) : Option (St × Int32) := if ((z_6.1 h0 1) : Int32) = 0 then some (z_6, r_4) else some (z_6, 0)
theorem fn_X6_readNumber_B29_s {F : Nat} {sh : Nat → Nat × Nat} {n : Nat} {h0 : Nat} {r_4 : Int32} {z_6 : St} {y : St × Int32} (h : fn_X6_readNumber_B29 F sh n h0 r_4 z_6 = some y) : (if ((z_6.1 h0 1) : Int32) = 0 then some (z_6, r_4) else some (z_6, 0)) = some y := h
def fn_X6_readNumber_B23 (F : Nat) (sh : Nat → Nat × Nat) (n : Nat) (h0 : Nat) (v_2 : Int32) (r_4 : Int32) (z_8 : St) : Option (St × Int32) := cal (fn_X6_fail F sh n z_8 h0 3 v_2) (fun z_9 _ => fn_X6_readNumber_B29 F sh n h0 r_4 z_9 )
theorem fn_X6_readNumber_B23_s {F : Nat} {sh : Nat → Nat × Nat} {n : Nat} {h0 : Nat} {v_2 : Int32} {r_4 : Int32} {z_8 : St} {y : St × Int32} (h : fn_X6_readNumber_B23 F sh n h0 v_2 r_4 z_8 = some y) : (cal (fn_X6_fail F sh n z_8 h0 3 v_2) (fun z_9 _ => fn_X6_readNumber_B29 F sh n h0 r_4 z_9 )) = some y := h
def fn_X6_readNumber (F : Nat) (sh : Nat → Nat × Nat) (n : Nat) (z : St) (h0 : Nat) (x0 : Int32) (x1 : Int32) : Option (St × Int32) := grd (okO sh n h0 6) (lt_ (z.1 h0 3) (fun v_2 => cal (fn_X6_readByte F sh n z h0) (fun z_3 r_4 => if (r_4 : Int32) < x0 then fn_X6_readNumber_B23 F sh n h0 v_2 r_4 z_3  else if (r_4 : Int32) ≤ x1 then fn_X6_readNumber_B29 F sh n h0 r_4 z_3  else fn_X6_readNumber_B23 F sh n h0 v_2 r_4 z_3 )))
set_option maxHeartbeats 4000000 in
set_option maxRecDepth 100000 in
theorem de_X6_readNumber (l : Launch) (dC : Nat → ClassId) (dI : Nat → Nat → Nat) (cy : Nat → ClassId) (a : Nat → Nat) (sh : Nat → Nat × Nat) (n sz : Nat) (F : Nat) (z : St) (h0 : Nat) (x0 : Int32) (x1 : Int32) {z8 : St} {r8 : Int32} (hf : fn_X6_readNumber F sh n z h0 x0 x1 = some (z8, r8)) : Met l yX6_readNumber wsX6_readNumber ({ frames := 1, cells := 0, slots := 0, locals := 22 }) (va_Pc [.ref (a h0), .int x0, .int x1] (fun U => U.heap.size = sz ∧ va_P (dC, dI) vwCl (Wd cy a sh n z) U.heap ∧ va_K (dC, dI) vwCl (TYS cy) U ∧ va_D (fun _ => True) (Wd cy a sh n z) ∧ NK U)) (va_Qi (fun (r9 : Int32) (u : Unit) => r9 = r8) (fun u t => va_P (dC, dI) vwCl (Wd cy a sh n z8) t.heap ∧ va_K (dC, dI) vwCl (TYS cy) t ∧ va_D (va_A (Wd cy a sh n z) sz) (Wd cy a sh n z8)) (va_A (Wd cy a sh n z) sz)) 0 0 (va_A (Wd cy a sh n z) sz) := by
  refine Met.ofW (cc := cX6_readNumber) (maxL := 5) (ret := (some .int)) (by decide) rfl ?_
  intro p e s m args below meth c s₁ B hml hv
  obtain ⟨rfl, hsz, hP, hK, hD0, hN⟩ := hv
  have hx := B.exec
  have hb := B.bytes
  have hr := B.returns
  have hts := atoms_spec (ws := wsX6_readNumber) B.pre
  have hown : s.vm.findClass RX6 = some m.cls := findClass_of_methodNamed B.named
  have hlocks := B.notSynchronized
  subst hsz
  have hD := hD0.self (sz := s.heap.size)
  clear hD0
  generalize hAe : va_A (Wd cy a sh n z) s.heap.size = A at hD ⊢
  have hA : ∀ q : Nat, s.heap.size ≤ q → A q := fun q h => by rw [← hAe]; exact Or.inr h
  clear hAe
  have hS : va_S A s.heap s.heap [] := va_S.rf
  have hl := lv_entry ([.ref (a h0), .int x0, .int x1]) (n := 5) (Nat.le_of_ble_eq_true rfl)
  rw [lg_entry_eq]
  generalize (lg_sl ([.ref (a h0), .int x0, .int x1]) ++ List.replicate (5 - (lg_sl ([.ref (a h0), .int x0, .int x1])).length) Slot.unset).toArray = ls at hl ⊢
  replace hl : lv_has ls 5 [(0, .ref (a h0)), (1, .int x0), (2, .int x1)] := hl
  unfold fn_X6_readNumber at hf
  refine de_start hS hP (fun H locs hS hP => ?_)
  refine lv_aload_n hx hb dX6_readNumber_0 rfl (lv_at hl 0 rfl) ?_
  obtain ⟨g_1, hf⟩ := grd_some hf
  obtain ⟨kg_1, sg_1⟩ := okO_at g_1
  refine va_get (D := (dC, dI)) (ci := 6) (v := .int (z.1 h0 3)) (C := RX6) (T := TX6) (N := 9) hx hb hts iwd_X6_readNumber_X6 hown hK hP h0 (Wd_ob kg_1 sg_1 (by decide)) rfl 3 (by decide) (hts _ md_X6_readNumber_1) (fun _ h9 => h9) (fl_at (t := 0) rfl) dX6_readNumber_1 ?_
  refine lv_topi (fun v_2 ev_2 => ?_)
  replace hf := lt_at ev_2 hf
  clear ev_2
  refine lv_istore_n (lv' := [(3, .int v_2), (0, .ref (a h0)), (1, .int x0), (2, .int x1)]) hx hb dX6_readNumber_4 rfl hl (by decide) rfl (fun ls hl2 => ?_)
  replace hl := hl2
  clear hl2
  refine lv_aload_n hx hb dX6_readNumber_5 rfl (lv_at hl 1 rfl) ?_
  obtain ⟨z_3, r_4, hfc, hf⟩ := cal_some hf
  have hFc := de_free hD hS hA
  refine va_calli (va_runV (As := []) (rest := []) ⟨hx, hb, hml, hown, hts⟩ (de_X6_readByte l dC dI cy a sh n H.size F z h0 hfc) (cwV 0 hts gX6_readNumber_X6_readByte rfl rfl rfl (by decide +kernel) ⟨Nat.le_of_ble_eq_true rfl, Nat.le_of_ble_eq_true rfl⟩) ⟨fun a U g mk q => by obtain ⟨q0, q1, qP, qK, qD, qN⟩ := q; exact ⟨q0, q1, qP, va_K.moved (u := U) (U := U.calling g mk a) (Vm.Alike.refl U.vm) qK, qD, qN.same rfl⟩, va_recv hK hP (ci := 6) (q0 := h0) rfl (Wd_ob kg_1 sg_1 (by decide)), fun U hU hW => ⟨rfl, by rw [hU], by rw [hU]; exact hP, va_K.moved hW.alike hK, hD.weaken (fun _ _ _ _ => trivial), hN.warm hW⟩⟩ rfl rfl hl.1 rfl (lv_room (Nat.le_of_ble_eq_true rfl)) dX6_readNumber_6 ⟨Nat.le_of_ble_eq_true rfl, Nat.le_of_ble_eq_true rfl⟩) hS (fun q _ h => hFc q h) hFc (fun rr u t H_5 locs ht hvm hw hB hz1 hk1 hS2 => ?_)
  rw [hw]
  clear hw
  obtain ⟨hP1, -, hD1⟩ := hB
  rw [ht] at hP1
  replace hD := hD1.weaken (fun _ _ _ h => hFc _ h)
  replace hP := hP1
  replace hS := hS2
  clear hP1 hD1 hS2 hFc hfc hz1 hk1 hvm ht
  refine lv_istore (lv' := [(4, .int r_4), (3, .int v_2), (0, .ref (a h0)), (1, .int x0), (2, .int x1)]) hx hb dX6_readNumber_9 hl (by decide) rfl (fun ls hl2 => ?_)
  replace hl := hl2
  clear hl2
  refine lv_iload hx hb dX6_readNumber_11 (lv_at hl 0 rfl) ?_
  refine lv_iload_n hx hb dX6_readNumber_13 rfl (lv_at hl 3 rfl) ?_
  refine de_cut (h := 29) (fun (x : St) => []) (fun x ls H locs => lv_has ls 5 [(4, .int r_4), (0, .ref (a h0))] ∧ va_P (dC, dI) vwCl (Wd cy a sh n x) H ∧ va_D A (Wd cy a sh n x) ∧ va_S A s.heap H locs) (fun x => fn_X6_readNumber_B29 F sh n h0 r_4 x) (z8, r8) ?_ (fun B29 => ?_)
  · intro x ls H locs hI hf
    obtain ⟨z_6, ez⟩ : ∃ w, w = x := ⟨_, rfl⟩
    subst ez
    obtain ⟨hl2, hP2, hD2, hS2⟩ := hI
    replace hl : lv_has ls 5 [(4, .int r_4), (0, .ref (a h0))] := hl2
    replace hP := hP2
    replace hD := hD2
    replace hS := hS2
    clear hl2 hP2 hD2 hS2
    replace hf := fn_X6_readNumber_B29_s hf
    refine W.eq (g2 := F0 m 29 ls []) rfl ?_
    refine lv_aload_n hx hb dX6_readNumber_29 rfl (lv_at hl 1 rfl) ?_
    refine va_get (D := (dC, dI)) (ci := 6) (v := .int (z_6.1 h0 1)) (C := RX6) (T := TX6) (N := 9) hx hb hts iwd_X6_readNumber_X6 hown hK hP h0 (Wd_ob kg_1 sg_1 (by decide)) rfl 1 (by decide) (hts _ md_X6_readNumber_2) (fun _ h9 => h9) (fl_at (t := 0) rfl) dX6_readNumber_30 ?_
    refine lv_if_ne (tgt := 41) hx hb dX6_readNumber_33 (by decide) (fun c_7 => ?_) (fun c_7 => ?_)
    · skip
      rw [if_neg c_7] at hf
      refine lv_iconst (v := 0) hx hb dX6_readNumber_41 (by decide) ?_
      obtain ⟨h8, h9⟩ := ret_some hf
      rw [h8, h9]
      exact W.iret (v := 0) hx hb hr (fun t ht hW => ⟨⟨0, (), rfl, rfl, by rw [ht]; exact hP, va_K.moved hW.alike hK, hD⟩, hS.F ht⟩) hS.2.2 dX6_readNumber_42
    · skip
      rw [if_pos c_7] at hf
      refine lv_iload hx hb dX6_readNumber_36 (lv_at hl 0 rfl) ?_
      refine lv_goto (tgt := 42) hx hb dX6_readNumber_38 (by decide) ?_
      obtain ⟨h8, h9⟩ := ret_some hf
      rw [h8, h9]
      exact W.iret (v := r_4) hx hb hr (fun t ht hW => ⟨⟨r_4, (), rfl, rfl, by rw [ht]; exact hP, va_K.moved hW.alike hK, hD⟩, hS.F ht⟩) hS.2.2 dX6_readNumber_42
  refine de_cut (h := 23) (fun (x : St) => []) (fun x ls H locs => lv_has ls 5 [(4, .int r_4), (3, .int v_2), (0, .ref (a h0))] ∧ va_P (dC, dI) vwCl (Wd cy a sh n x) H ∧ va_D A (Wd cy a sh n x) ∧ va_S A s.heap H locs) (fun x => fn_X6_readNumber_B23 F sh n h0 v_2 r_4 x) (z8, r8) ?_ (fun B23 => ?_)
  · intro x ls H locs hI hf
    obtain ⟨z_8, ez⟩ : ∃ w, w = x := ⟨_, rfl⟩
    subst ez
    obtain ⟨hl2, hP2, hD2, hS2⟩ := hI
    replace hl : lv_has ls 5 [(4, .int r_4), (3, .int v_2), (0, .ref (a h0))] := hl2
    replace hP := hP2
    replace hD := hD2
    replace hS := hS2
    clear hl2 hP2 hD2 hS2
    replace hf := fn_X6_readNumber_B23_s hf
    refine W.eq (g2 := F0 m 23 ls []) rfl ?_
    refine lv_aload_n hx hb dX6_readNumber_23 rfl (lv_at hl 2 rfl) ?_
    refine lv_iconst (v := 3) hx hb dX6_readNumber_24 (by decide) ?_
    refine lv_iload_n hx hb dX6_readNumber_25 rfl (lv_at hl 1 rfl) ?_
    obtain ⟨z_9, _u, hfc, hf⟩ := cal_some hf
    have hFc := de_free hD hS hA
    refine va_callv (va_runV (As := [.int 3, .int v_2]) (rest := []) ⟨hx, hb, hml, hown, hts⟩ (de_X6_fail l dC dI cy a sh n H.size F z_8 h0 3 v_2 hfc) (cwV 2 hts gX6_readNumber_X6_fail rfl rfl rfl (by decide +kernel) ⟨Nat.le_of_ble_eq_true rfl, Nat.le_of_ble_eq_true rfl⟩) ⟨fun a U g mk q => by obtain ⟨q0, q1, qP, qK, qD, qN⟩ := q; exact ⟨q0, q1, qP, va_K.moved (u := U) (U := U.calling g mk a) (Vm.Alike.refl U.vm) qK, qD, qN.same rfl⟩, va_recv hK hP (ci := 6) (q0 := h0) rfl (Wd_ob kg_1 sg_1 (by decide)), fun U hU hW => ⟨rfl, by rw [hU], by rw [hU]; exact hP, va_K.moved hW.alike hK, hD.weaken (fun _ _ _ _ => trivial), hN.warm hW⟩⟩ rfl rfl hl.1 rfl (lv_room (Nat.le_of_ble_eq_true rfl)) dX6_readNumber_26 ⟨Nat.le_of_ble_eq_true rfl, Nat.le_of_ble_eq_true rfl⟩) hS (fun q _ h => hFc q h) hFc (fun u t H_10 locs ht hvm hw hB hz1 hk1 hS2 => ?_)
    obtain ⟨hP1, -, hD1⟩ := hB
    rw [ht] at hP1
    replace hD := hD1.weaken (fun _ _ _ h => hFc _ h)
    replace hP := hP1
    replace hS := hS2
    clear hP1 hD1 hS2 hFc hfc hz1 hk1 hvm ht
    exact B29 (z_9) ls H_10 locs ⟨lv_sub hl [0, 2] rfl, hP, hD, hS⟩ hf
  refine lv_icmp_lt (tgt := 23) hx hb dX6_readNumber_14 (by decide) (fun c_11 => ?_) (fun c_11 => ?_)
  · skip
    rw [if_pos c_11] at hf
    exact B23 (z_3) ls H_5 locs ⟨lv_sub hl [0, 1, 2] rfl, hP, hD, hS⟩ hf
  · skip
    rw [if_neg c_11] at hf
    refine lv_iload hx hb dX6_readNumber_17 (lv_at hl 0 rfl) ?_
    refine lv_iload_n hx hb dX6_readNumber_19 rfl (lv_at hl 4 rfl) ?_
    refine lv_icmp_le (tgt := 29) hx hb dX6_readNumber_20 (by decide) (fun c_12 => ?_) (fun c_12 => ?_)
    · skip
      rw [if_pos c_12] at hf
      exact B29 (z_3) ls H_5 locs ⟨lv_sub hl [0, 2] rfl, hP, hD, hS⟩ hf
    · skip
      rw [if_neg c_12] at hf
      exact B23 (z_3) ls H_5 locs ⟨lv_sub hl [0, 1, 2] rfl, hP, hD, hS⟩ hf

theorem md_X6_pass_1 : (.fieldLink RX6 21 "ResourceLedger$Reader" "fault" "I" : Cond) ∈ wsX6_pass := List.mem_of_getElem? (i := 1) rfl
theorem iwd_X6_pass_X6 : ∀ w ∈ wsX60, w ∈ wsX6_pass := fun _ h => List.mem_cons_of_mem _ (List.mem_append_left _ (List.mem_append_right _ h))
def fn_X6_pass_L2 (F : Nat) (sh : Nat → Nat × Nat) (n : Nat) (x0 : Int32) (h0 : Nat) : Nat → St → Int32 → Option (St × Unit)
  | 0, _, _ => none
  | f_3 + 1, z_2, p_1 => if (x0 : Int32) ≤ p_1 then some (z_2, ()) else grd (okO sh n h0 6) (if ((z_2.1 h0 1) : Int32) = 0 then cal (fn_X6_readByte F sh n z_2 h0) (fun z_7 r_8 => fn_X6_pass_L2 F sh n x0 h0 f_3 z_7 (p_1 + 1)) else some (z_2, ()))
theorem fn_X6_pass_L2_s {F : Nat} {sh : Nat → Nat × Nat} {n : Nat} {x0 : Int32} {h0 : Nat} {f_3 : Nat} {z_2 : St} {p_1 : Int32} {y : St × Unit} (h : fn_X6_pass_L2 F sh n x0 h0 (f_3 + 1) z_2 p_1 = some y) : (if (x0 : Int32) ≤ p_1 then some (z_2, ()) else grd (okO sh n h0 6) (if ((z_2.1 h0 1) : Int32) = 0 then cal (fn_X6_readByte F sh n z_2 h0) (fun z_7 r_8 => fn_X6_pass_L2 F sh n x0 h0 f_3 z_7 (p_1 + 1)) else some (z_2, ()))) = some y := h
def fn_X6_pass (F : Nat) (sh : Nat → Nat × Nat) (n : Nat) (z : St) (h0 : Nat) (x0 : Int32) : Option (St × Unit) := fn_X6_pass_L2 F sh n x0 h0 F z 0
set_option maxHeartbeats 4000000 in
set_option maxRecDepth 100000 in
theorem de_X6_pass (l : Launch) (dC : Nat → ClassId) (dI : Nat → Nat → Nat) (cy : Nat → ClassId) (a : Nat → Nat) (sh : Nat → Nat × Nat) (n sz : Nat) (F : Nat) (z : St) (h0 : Nat) (x0 : Int32) {z8 : St} {r8 : Unit} (hf : fn_X6_pass F sh n z h0 x0 = some (z8, r8)) : Met l yX6_pass wsX6_pass ({ frames := 1, cells := 0, slots := 0, locals := 20 }) (va_Pc [.ref (a h0), .int x0] (fun U => U.heap.size = sz ∧ va_P (dC, dI) vwCl (Wd cy a sh n z) U.heap ∧ va_K (dC, dI) vwCl (TYS cy) U ∧ va_D (fun _ => True) (Wd cy a sh n z) ∧ NK U)) (va_Qv (fun u : Unit => True) (fun u t => va_P (dC, dI) vwCl (Wd cy a sh n z8) t.heap ∧ va_K (dC, dI) vwCl (TYS cy) t ∧ va_D (va_A (Wd cy a sh n z) sz) (Wd cy a sh n z8)) (va_A (Wd cy a sh n z) sz)) 0 0 (va_A (Wd cy a sh n z) sz) := by
  refine Met.ofW (cc := cX6_pass) (maxL := 3) (ret := none) (by decide) rfl ?_
  intro p e s m args below meth c s₁ B hml hv
  obtain ⟨rfl, hsz, hP, hK, hD0, hN⟩ := hv
  have hx := B.exec
  have hb := B.bytes
  have hr := B.returns
  have hts := atoms_spec (ws := wsX6_pass) B.pre
  have hown : s.vm.findClass RX6 = some m.cls := findClass_of_methodNamed B.named
  have hlocks := B.notSynchronized
  subst hsz
  have hD := hD0.self (sz := s.heap.size)
  clear hD0
  generalize hAe : va_A (Wd cy a sh n z) s.heap.size = A at hD ⊢
  have hA : ∀ q : Nat, s.heap.size ≤ q → A q := fun q h => by rw [← hAe]; exact Or.inr h
  clear hAe
  have hS : va_S A s.heap s.heap [] := va_S.rf
  have hl := lv_entry ([.ref (a h0), .int x0]) (n := 3) (Nat.le_of_ble_eq_true rfl)
  rw [lg_entry_eq]
  generalize (lg_sl ([.ref (a h0), .int x0]) ++ List.replicate (3 - (lg_sl ([.ref (a h0), .int x0])).length) Slot.unset).toArray = ls at hl ⊢
  replace hl : lv_has ls 3 [(0, .ref (a h0)), (1, .int x0)] := hl
  unfold fn_X6_pass at hf
  refine de_start hS hP (fun H locs hS hP => ?_)
  refine lv_iconst (v := 0) hx hb dX6_pass_0 (by decide) ?_
  refine lv_istore_n (lv' := [(2, .int 0), (0, .ref (a h0)), (1, .int x0)]) hx hb dX6_pass_1 rfl hl (by decide) rfl (fun ls hl2 => ?_)
  replace hl := hl2
  clear hl2
  have hl0 : lv_has ls 3 [(2, .int 0), (0, .ref (a h0)), (1, .int x0)] := lv_sub hl [0, 1, 2] rfl
  refine de_loop (h := 2) (fun (x : St × Int32) ls H locs => lv_has ls 3 [(2, .int x.2), (0, .ref (a h0)), (1, .int x0)] ∧ va_P (dC, dI) vwCl (Wd cy a sh n x.1) H ∧ va_D A (Wd cy a sh n x.1) ∧ va_S A s.heap H locs) (fun f x => fn_X6_pass_L2 F sh n x0 h0 f x.1 x.2) (z8, r8) ?_ (fun _ => rfl) F (z, 0) ls H locs ⟨hl0, hP, hD, hS⟩ hf
  intro f_3 x ls H locs ih2 hI hf
  obtain ⟨z_2, p_1⟩ := x
  obtain ⟨hl2, hP2, hD2, hS2⟩ := hI
  replace hl : lv_has ls 3 [(2, .int p_1), (0, .ref (a h0)), (1, .int x0)] := hl2
  replace hP := hP2
  replace hD := hD2
  replace hS := hS2
  clear hl2 hP2 hD2 hS2 hl0
  replace hf := fn_X6_pass_L2_s hf
  refine lv_iload_n hx hb dX6_pass_2 rfl (lv_at hl 0 rfl) ?_
  refine lv_iload_n hx hb dX6_pass_3 rfl (lv_at hl 2 rfl) ?_
  refine lv_icmp_ge (tgt := 25) hx hb dX6_pass_4 (by decide) (fun c_4 => ?_) (fun c_4 => ?_)
  · skip
    rw [if_pos c_4] at hf
    obtain ⟨h8, h9⟩ := ret_some hf
    rw [h8]
    exact W.vret hx hb hr (fun t ht hW => ⟨⟨(), rfl, trivial, by rw [ht]; exact hP, va_K.moved hW.alike hK, hD⟩, hS.F ht⟩) hS.2.2 dX6_pass_25
  · skip
    rw [if_neg c_4] at hf
    refine lv_aload_n hx hb dX6_pass_7 rfl (lv_at hl 1 rfl) ?_
    obtain ⟨g_5, hf⟩ := grd_some hf
    obtain ⟨kg_5, sg_5⟩ := okO_at g_5
    refine va_get (D := (dC, dI)) (ci := 6) (v := .int (z_2.1 h0 1)) (C := RX6) (T := TX6) (N := 9) hx hb hts iwd_X6_pass_X6 hown hK hP h0 (Wd_ob kg_5 sg_5 (by decide)) rfl 1 (by decide) (hts _ md_X6_pass_1) (fun _ h9 => h9) (fl_at (t := 0) rfl) dX6_pass_8 ?_
    refine lv_if_ne (tgt := 25) hx hb dX6_pass_11 (by decide) (fun c_6 => ?_) (fun c_6 => ?_)
    · skip
      rw [if_neg c_6] at hf
      obtain ⟨h8, h9⟩ := ret_some hf
      rw [h8]
      exact W.vret hx hb hr (fun t ht hW => ⟨⟨(), rfl, trivial, by rw [ht]; exact hP, va_K.moved hW.alike hK, hD⟩, hS.F ht⟩) hS.2.2 dX6_pass_25
    · skip
      rw [if_pos c_6] at hf
      refine lv_aload_n hx hb dX6_pass_14 rfl (lv_at hl 1 rfl) ?_
      obtain ⟨z_7, r_8, hfc, hf⟩ := cal_some hf
      have hFc := de_free hD hS hA
      refine va_calli (va_runV (As := []) (rest := []) ⟨hx, hb, hml, hown, hts⟩ (de_X6_readByte l dC dI cy a sh n H.size F z_2 h0 hfc) (cwV 0 hts gX6_pass_X6_readByte rfl rfl rfl (by decide +kernel) ⟨Nat.le_of_ble_eq_true rfl, Nat.le_of_ble_eq_true rfl⟩) ⟨fun a U g mk q => by obtain ⟨q0, q1, qP, qK, qD, qN⟩ := q; exact ⟨q0, q1, qP, va_K.moved (u := U) (U := U.calling g mk a) (Vm.Alike.refl U.vm) qK, qD, qN.same rfl⟩, va_recv hK hP (ci := 6) (q0 := h0) rfl (Wd_ob kg_5 sg_5 (by decide)), fun U hU hW => ⟨rfl, by rw [hU], by rw [hU]; exact hP, va_K.moved hW.alike hK, hD.weaken (fun _ _ _ _ => trivial), hN.warm hW⟩⟩ rfl rfl hl.1 rfl (lv_room (Nat.le_of_ble_eq_true rfl)) dX6_pass_15 ⟨Nat.le_of_ble_eq_true rfl, Nat.le_of_ble_eq_true rfl⟩) hS (fun q _ h => hFc q h) hFc (fun rr u t H_9 locs ht hvm hw hB hz1 hk1 hS2 => ?_)
      rw [hw]
      clear hw
      obtain ⟨hP1, -, hD1⟩ := hB
      rw [ht] at hP1
      replace hD := hD1.weaken (fun _ _ _ h => hFc _ h)
      replace hP := hP1
      replace hS := hS2
      clear hP1 hD1 hS2 hFc hfc hz1 hk1 hvm ht
      refine lv_pop hx hb dX6_pass_18 rfl ?_
      refine lv_iinc (v := (p_1 + 1)) (lv' := [(2, .int (p_1 + 1)), (0, .ref (a h0)), (1, .int x0)]) hx hb dX6_pass_19 hl (k := 0) rfl rfl (by decide) rfl (fun ls hl2 => ?_)
      replace hl := hl2
      clear hl2
      refine lv_goto (tgt := 2) hx hb dX6_pass_22 (by decide) ?_
      exact ih2 (z_7, (p_1 + 1)) ls H_9 locs ⟨lv_sub hl [0, 1, 2] rfl, hP, hD, hS⟩ hf

theorem md_X6_readJudged_1 : (.fieldLink RX6 32 "ResourceLedger$Reader" "at" "I" : Cond) ∈ wsX6_readJudged := List.mem_of_getElem? (i := 1) rfl
theorem iwd_X6_readJudged_X6 : ∀ w ∈ wsX60, w ∈ wsX6_readJudged := fun _ h => List.mem_cons_of_mem _ (List.mem_append_left _ (List.mem_append_right _ h))
theorem md_X6_readJudged_2 : (.fieldLink RX6 28 "ResourceLedger$Reader" "judging" "Z" : Cond) ∈ wsX6_readJudged := List.mem_of_getElem? (i := 2) rfl
def fn_X6_readJudged (F : Nat) (sh : Nat → Nat × Nat) (n : Nat) (z : St) (h0 : Nat) (x0 : Int32) (x1 : Int32) : Option (St × Int32) := grd (okO sh n h0 6) (lt_ (z.1 h0 3) (fun v_2 => cal (fn_X6_readByte F sh n z h0) (fun z_3 r_4 => if ((z_3.1 h0 4) : Int32) = 0 then some (z_3, r_4) else if (r_4 : Int32) < x0 then some (z_3, r_4) else cal (fn_X6_fail F sh n z_3 h0 x1 v_2) (fun z_8 _ => some (z_8, r_4)))))
set_option maxHeartbeats 4000000 in
set_option maxRecDepth 100000 in
theorem de_X6_readJudged (l : Launch) (dC : Nat → ClassId) (dI : Nat → Nat → Nat) (cy : Nat → ClassId) (a : Nat → Nat) (sh : Nat → Nat × Nat) (n sz : Nat) (F : Nat) (z : St) (h0 : Nat) (x0 : Int32) (x1 : Int32) {z8 : St} {r8 : Int32} (hf : fn_X6_readJudged F sh n z h0 x0 x1 = some (z8, r8)) : Met l yX6_readJudged wsX6_readJudged ({ frames := 1, cells := 0, slots := 0, locals := 22 }) (va_Pc [.ref (a h0), .int x0, .int x1] (fun U => U.heap.size = sz ∧ va_P (dC, dI) vwCl (Wd cy a sh n z) U.heap ∧ va_K (dC, dI) vwCl (TYS cy) U ∧ va_D (fun _ => True) (Wd cy a sh n z) ∧ NK U)) (va_Qi (fun (r9 : Int32) (u : Unit) => r9 = r8) (fun u t => va_P (dC, dI) vwCl (Wd cy a sh n z8) t.heap ∧ va_K (dC, dI) vwCl (TYS cy) t ∧ va_D (va_A (Wd cy a sh n z) sz) (Wd cy a sh n z8)) (va_A (Wd cy a sh n z) sz)) 0 0 (va_A (Wd cy a sh n z) sz) := by
  refine Met.ofW (cc := cX6_readJudged) (maxL := 5) (ret := (some .int)) (by decide) rfl ?_
  intro p e s m args below meth c s₁ B hml hv
  obtain ⟨rfl, hsz, hP, hK, hD0, hN⟩ := hv
  have hx := B.exec
  have hb := B.bytes
  have hr := B.returns
  have hts := atoms_spec (ws := wsX6_readJudged) B.pre
  have hown : s.vm.findClass RX6 = some m.cls := findClass_of_methodNamed B.named
  have hlocks := B.notSynchronized
  subst hsz
  have hD := hD0.self (sz := s.heap.size)
  clear hD0
  generalize hAe : va_A (Wd cy a sh n z) s.heap.size = A at hD ⊢
  have hA : ∀ q : Nat, s.heap.size ≤ q → A q := fun q h => by rw [← hAe]; exact Or.inr h
  clear hAe
  have hS : va_S A s.heap s.heap [] := va_S.rf
  have hl := lv_entry ([.ref (a h0), .int x0, .int x1]) (n := 5) (Nat.le_of_ble_eq_true rfl)
  rw [lg_entry_eq]
  generalize (lg_sl ([.ref (a h0), .int x0, .int x1]) ++ List.replicate (5 - (lg_sl ([.ref (a h0), .int x0, .int x1])).length) Slot.unset).toArray = ls at hl ⊢
  replace hl : lv_has ls 5 [(0, .ref (a h0)), (1, .int x0), (2, .int x1)] := hl
  unfold fn_X6_readJudged at hf
  refine de_start hS hP (fun H locs hS hP => ?_)
  refine lv_aload_n hx hb dX6_readJudged_0 rfl (lv_at hl 0 rfl) ?_
  obtain ⟨g_1, hf⟩ := grd_some hf
  obtain ⟨kg_1, sg_1⟩ := okO_at g_1
  refine va_get (D := (dC, dI)) (ci := 6) (v := .int (z.1 h0 3)) (C := RX6) (T := TX6) (N := 9) hx hb hts iwd_X6_readJudged_X6 hown hK hP h0 (Wd_ob kg_1 sg_1 (by decide)) rfl 3 (by decide) (hts _ md_X6_readJudged_1) (fun _ h9 => h9) (fl_at (t := 0) rfl) dX6_readJudged_1 ?_
  refine lv_topi (fun v_2 ev_2 => ?_)
  replace hf := lt_at ev_2 hf
  clear ev_2
  refine lv_istore_n (lv' := [(3, .int v_2), (0, .ref (a h0)), (1, .int x0), (2, .int x1)]) hx hb dX6_readJudged_4 rfl hl (by decide) rfl (fun ls hl2 => ?_)
  replace hl := hl2
  clear hl2
  refine lv_aload_n hx hb dX6_readJudged_5 rfl (lv_at hl 1 rfl) ?_
  obtain ⟨z_3, r_4, hfc, hf⟩ := cal_some hf
  have hFc := de_free hD hS hA
  refine va_calli (va_runV (As := []) (rest := []) ⟨hx, hb, hml, hown, hts⟩ (de_X6_readByte l dC dI cy a sh n H.size F z h0 hfc) (cwV 0 hts gX6_readJudged_X6_readByte rfl rfl rfl (by decide +kernel) ⟨Nat.le_of_ble_eq_true rfl, Nat.le_of_ble_eq_true rfl⟩) ⟨fun a U g mk q => by obtain ⟨q0, q1, qP, qK, qD, qN⟩ := q; exact ⟨q0, q1, qP, va_K.moved (u := U) (U := U.calling g mk a) (Vm.Alike.refl U.vm) qK, qD, qN.same rfl⟩, va_recv hK hP (ci := 6) (q0 := h0) rfl (Wd_ob kg_1 sg_1 (by decide)), fun U hU hW => ⟨rfl, by rw [hU], by rw [hU]; exact hP, va_K.moved hW.alike hK, hD.weaken (fun _ _ _ _ => trivial), hN.warm hW⟩⟩ rfl rfl hl.1 rfl (lv_room (Nat.le_of_ble_eq_true rfl)) dX6_readJudged_6 ⟨Nat.le_of_ble_eq_true rfl, Nat.le_of_ble_eq_true rfl⟩) hS (fun q _ h => hFc q h) hFc (fun rr u t H_5 locs ht hvm hw hB hz1 hk1 hS2 => ?_)
  rw [hw]
  clear hw
  obtain ⟨hP1, -, hD1⟩ := hB
  rw [ht] at hP1
  replace hD := hD1.weaken (fun _ _ _ h => hFc _ h)
  replace hP := hP1
  replace hS := hS2
  clear hP1 hD1 hS2 hFc hfc hz1 hk1 hvm ht
  refine lv_istore (lv' := [(4, .int r_4), (3, .int v_2), (0, .ref (a h0)), (1, .int x0), (2, .int x1)]) hx hb dX6_readJudged_9 hl (by decide) rfl (fun ls hl2 => ?_)
  replace hl := hl2
  clear hl2
  refine lv_aload_n hx hb dX6_readJudged_11 rfl (lv_at hl 2 rfl) ?_
  refine va_get (D := (dC, dI)) (ci := 6) (v := .int (z_3.1 h0 4)) (C := RX6) (T := TX6) (N := 9) hx hb hts iwd_X6_readJudged_X6 hown hK hP h0 (Wd_ob kg_1 sg_1 (by decide)) rfl 4 (by decide) (hts _ md_X6_readJudged_2) (fun _ h9 => h9) (fl_at (t := 0) rfl) dX6_readJudged_12 ?_
  refine lv_if_eq (tgt := 30) hx hb dX6_readJudged_15 (by decide) (fun c_6 => ?_) (fun c_6 => ?_)
  · skip
    rw [if_pos c_6] at hf
    refine lv_iload hx hb dX6_readJudged_30 (lv_at hl 0 rfl) ?_
    obtain ⟨h8, h9⟩ := ret_some hf
    rw [h8, h9]
    exact W.iret (v := r_4) hx hb hr (fun t ht hW => ⟨⟨r_4, (), rfl, rfl, by rw [ht]; exact hP, va_K.moved hW.alike hK, hD⟩, hS.F ht⟩) hS.2.2 dX6_readJudged_32
  · skip
    rw [if_neg c_6] at hf
    refine lv_iload hx hb dX6_readJudged_18 (lv_at hl 0 rfl) ?_
    refine lv_iload_n hx hb dX6_readJudged_20 rfl (lv_at hl 3 rfl) ?_
    refine lv_icmp_lt (tgt := 30) hx hb dX6_readJudged_21 (by decide) (fun c_7 => ?_) (fun c_7 => ?_)
    · skip
      rw [if_pos c_7] at hf
      refine lv_iload hx hb dX6_readJudged_30 (lv_at hl 0 rfl) ?_
      obtain ⟨h8, h9⟩ := ret_some hf
      rw [h8, h9]
      exact W.iret (v := r_4) hx hb hr (fun t ht hW => ⟨⟨r_4, (), rfl, rfl, by rw [ht]; exact hP, va_K.moved hW.alike hK, hD⟩, hS.F ht⟩) hS.2.2 dX6_readJudged_32
    · skip
      rw [if_neg c_7] at hf
      refine lv_aload_n hx hb dX6_readJudged_24 rfl (lv_at hl 2 rfl) ?_
      refine lv_iload_n hx hb dX6_readJudged_25 rfl (lv_at hl 4 rfl) ?_
      refine lv_iload_n hx hb dX6_readJudged_26 rfl (lv_at hl 1 rfl) ?_
      obtain ⟨z_8, _u, hfc, hf⟩ := cal_some hf
      have hFc := de_free hD hS hA
      refine va_callv (va_runV (As := [.int x1, .int v_2]) (rest := []) ⟨hx, hb, hml, hown, hts⟩ (de_X6_fail l dC dI cy a sh n H_5.size F z_3 h0 x1 v_2 hfc) (cwV 2 hts gX6_readJudged_X6_fail rfl rfl rfl (by decide +kernel) ⟨Nat.le_of_ble_eq_true rfl, Nat.le_of_ble_eq_true rfl⟩) ⟨fun a U g mk q => by obtain ⟨q0, q1, qP, qK, qD, qN⟩ := q; exact ⟨q0, q1, qP, va_K.moved (u := U) (U := U.calling g mk a) (Vm.Alike.refl U.vm) qK, qD, qN.same rfl⟩, va_recv hK hP (ci := 6) (q0 := h0) rfl (Wd_ob kg_1 sg_1 (by decide)), fun U hU hW => ⟨rfl, by rw [hU], by rw [hU]; exact hP, va_K.moved hW.alike hK, hD.weaken (fun _ _ _ _ => trivial), hN.warm hW⟩⟩ rfl rfl hl.1 rfl (lv_room (Nat.le_of_ble_eq_true rfl)) dX6_readJudged_27 ⟨Nat.le_of_ble_eq_true rfl, Nat.le_of_ble_eq_true rfl⟩) hS (fun q _ h => hFc q h) hFc (fun u t H_9 locs ht hvm hw hB hz1 hk1 hS2 => ?_)
      obtain ⟨hP1, -, hD1⟩ := hB
      rw [ht] at hP1
      replace hD := hD1.weaken (fun _ _ _ h => hFc _ h)
      replace hP := hP1
      replace hS := hS2
      clear hP1 hD1 hS2 hFc hfc hz1 hk1 hvm ht
      refine lv_iload hx hb dX6_readJudged_30 (lv_at hl 0 rfl) ?_
      obtain ⟨h8, h9⟩ := ret_some hf
      rw [h8, h9]
      exact W.iret (v := r_4) hx hb hr (fun t ht hW => ⟨⟨r_4, (), rfl, rfl, by rw [ht]; exact hP, va_K.moved hW.alike hK, hD⟩, hS.F ht⟩) hS.2.2 dX6_readJudged_32

theorem md_X6_readOwnStructure_1 : (.fieldLink RX6 32 "ResourceLedger$Reader" "at" "I" : Cond) ∈ wsX6_readOwnStructure := List.mem_of_getElem? (i := 1) rfl
theorem iwd_X6_readOwnStructure_X6 : ∀ w ∈ wsX60, w ∈ wsX6_readOwnStructure := fun _ h => List.mem_cons_of_mem _ (List.mem_append_left _ (List.mem_append_right _ h))
theorem md_X6_readOwnStructure_2 : (.fieldLink RX6 17 "ResourceLedger$Reader" "p" "LResourceLedger$Program;" : Cond) ∈ wsX6_readOwnStructure := List.mem_of_getElem? (i := 2) rfl
theorem md_X6_readOwnStructure_3 : (.fieldLink RX6 103 "ResourceLedger$Program" "allStructures" "I" : Cond) ∈ wsX6_readOwnStructure := List.mem_of_getElem? (i := 3) rfl
theorem iwd_X6_readOwnStructure_X5 : ∀ w ∈ wsX50, w ∈ wsX6_readOwnStructure := fun _ h => List.mem_cons_of_mem _ (List.mem_append_right _ h)
theorem md_X6_readOwnStructure_4 : (.fieldLink RX6 28 "ResourceLedger$Reader" "judging" "Z" : Cond) ∈ wsX6_readOwnStructure := List.mem_of_getElem? (i := 4) rfl
theorem md_X6_readOwnStructure_5 : (.fieldLink RX6 100 "ResourceLedger$Program" "ownStructures" "I" : Cond) ∈ wsX6_readOwnStructure := List.mem_of_getElem? (i := 5) rfl
def fn_X6_readOwnStructure (F : Nat) (sh : Nat → Nat × Nat) (n : Nat) (z : St) (h0 : Nat) : Option (St × Int32) := grd (okO sh n h0 6) (lt_ (z.1 h0 3) (fun v_2 => lnk (z.2.2 h0 2) (fun k_3 => grd (okO sh n k_3 5) (cal (fn_X6_readJudged F sh n z h0 (z.1 k_3 9) 7) (fun z_5 r_6 => if ((z_5.1 h0 4) : Int32) = 0 then some (z_5, r_6) else lnk (z_5.2.2 h0 2) (fun k_9 => grd (okO sh n k_9 5) (if (r_6 : Int32) < (z_5.1 k_9 8) then some (z_5, r_6) else cal (fn_X6_fail F sh n z_5 h0 8 v_2) (fun z_12 _ => some (z_12, r_6)))))))))
set_option maxHeartbeats 4000000 in
set_option maxRecDepth 100000 in
theorem de_X6_readOwnStructure (l : Launch) (dC : Nat → ClassId) (dI : Nat → Nat → Nat) (cy : Nat → ClassId) (a : Nat → Nat) (sh : Nat → Nat × Nat) (n sz : Nat) (F : Nat) (z : St) (h0 : Nat) {z8 : St} {r8 : Int32} (hf : fn_X6_readOwnStructure F sh n z h0 = some (z8, r8)) : Met l yX6_readOwnStructure wsX6_readOwnStructure ({ frames := 2, cells := 0, slots := 0, locals := 46 }) (va_Pc [.ref (a h0)] (fun U => U.heap.size = sz ∧ va_P (dC, dI) vwCl (Wd cy a sh n z) U.heap ∧ va_K (dC, dI) vwCl (TYS cy) U ∧ va_D (fun _ => True) (Wd cy a sh n z) ∧ NK U)) (va_Qi (fun (r9 : Int32) (u : Unit) => r9 = r8) (fun u t => va_P (dC, dI) vwCl (Wd cy a sh n z8) t.heap ∧ va_K (dC, dI) vwCl (TYS cy) t ∧ va_D (va_A (Wd cy a sh n z) sz) (Wd cy a sh n z8)) (va_A (Wd cy a sh n z) sz)) 0 0 (va_A (Wd cy a sh n z) sz) := by
  refine Met.ofW (cc := cX6_readOwnStructure) (maxL := 3) (ret := (some .int)) (by decide) rfl ?_
  intro p e s m args below meth c s₁ B hml hv
  obtain ⟨rfl, hsz, hP, hK, hD0, hN⟩ := hv
  have hx := B.exec
  have hb := B.bytes
  have hr := B.returns
  have hts := atoms_spec (ws := wsX6_readOwnStructure) B.pre
  have hown : s.vm.findClass RX6 = some m.cls := findClass_of_methodNamed B.named
  have hlocks := B.notSynchronized
  subst hsz
  have hD := hD0.self (sz := s.heap.size)
  clear hD0
  generalize hAe : va_A (Wd cy a sh n z) s.heap.size = A at hD ⊢
  have hA : ∀ q : Nat, s.heap.size ≤ q → A q := fun q h => by rw [← hAe]; exact Or.inr h
  clear hAe
  have hS : va_S A s.heap s.heap [] := va_S.rf
  have hl := lv_entry ([.ref (a h0)]) (n := 3) (Nat.le_of_ble_eq_true rfl)
  rw [lg_entry_eq]
  generalize (lg_sl ([.ref (a h0)]) ++ List.replicate (3 - (lg_sl ([.ref (a h0)])).length) Slot.unset).toArray = ls at hl ⊢
  replace hl : lv_has ls 3 [(0, .ref (a h0))] := hl
  unfold fn_X6_readOwnStructure at hf
  refine de_start hS hP (fun H locs hS hP => ?_)
  refine lv_aload_n hx hb dX6_readOwnStructure_0 rfl (lv_at hl 0 rfl) ?_
  obtain ⟨g_1, hf⟩ := grd_some hf
  obtain ⟨kg_1, sg_1⟩ := okO_at g_1
  refine va_get (D := (dC, dI)) (ci := 6) (v := .int (z.1 h0 3)) (C := RX6) (T := TX6) (N := 9) hx hb hts iwd_X6_readOwnStructure_X6 hown hK hP h0 (Wd_ob kg_1 sg_1 (by decide)) rfl 3 (by decide) (hts _ md_X6_readOwnStructure_1) (fun _ h9 => h9) (fl_at (t := 0) rfl) dX6_readOwnStructure_1 ?_
  refine lv_topi (fun v_2 ev_2 => ?_)
  replace hf := lt_at ev_2 hf
  clear ev_2
  refine lv_istore_n (lv' := [(1, .int v_2), (0, .ref (a h0))]) hx hb dX6_readOwnStructure_4 rfl hl (by decide) rfl (fun ls hl2 => ?_)
  replace hl := hl2
  clear hl2
  refine lv_aload_n hx hb dX6_readOwnStructure_5 rfl (lv_at hl 1 rfl) ?_
  refine lv_aload_n hx hb dX6_readOwnStructure_6 rfl (lv_at hl 1 rfl) ?_
  obtain ⟨k_3, ek_3, hf⟩ := lnk_some hf
  refine va_get (D := (dC, dI)) (ci := 6) (v := .ref (a k_3)) (C := RX6) (T := TX6) (N := 9) hx hb hts iwd_X6_readOwnStructure_X6 hown hK hP h0 (Wd_ob kg_1 sg_1 (by decide)) rfl 2 (by decide) (hts _ md_X6_readOwnStructure_2) (fun _ h9 => h9) (fl_q rfl ek_3) dX6_readOwnStructure_7 ?_
  obtain ⟨g_4, hf⟩ := grd_some hf
  obtain ⟨kg_4, sg_4⟩ := okO_at g_4
  refine va_get (D := (dC, dI)) (ci := 5) (v := .int (z.1 k_3 9)) (C := RX5) (T := TX5) (N := 15) hx hb hts iwd_X6_readOwnStructure_X5 hown hK hP k_3 (Wd_ob kg_4 sg_4 (by decide)) rfl 9 (by decide) (hts _ md_X6_readOwnStructure_3) (fun _ h9 => h9) (fl_at (t := 0) rfl) dX6_readOwnStructure_10 ?_
  refine lv_bipush (v := 7) hx hb dX6_readOwnStructure_13 (by decide) ?_
  obtain ⟨z_5, r_6, hfc, hf⟩ := cal_some hf
  have hFc := de_free hD hS hA
  refine va_calli (va_runV (As := [.int (z.1 k_3 9), .int 7]) (rest := []) ⟨hx, hb, hml, hown, hts⟩ (de_X6_readJudged l dC dI cy a sh n H.size F z h0 (z.1 k_3 9) 7 hfc) (cwV 2 hts gX6_readOwnStructure_X6_readJudged rfl rfl rfl (by decide +kernel) ⟨Nat.le_of_ble_eq_true rfl, Nat.le_of_ble_eq_true rfl⟩) ⟨fun a U g mk q => by obtain ⟨q0, q1, qP, qK, qD, qN⟩ := q; exact ⟨q0, q1, qP, va_K.moved (u := U) (U := U.calling g mk a) (Vm.Alike.refl U.vm) qK, qD, qN.same rfl⟩, va_recv hK hP (ci := 6) (q0 := h0) rfl (Wd_ob kg_1 sg_1 (by decide)), fun U hU hW => ⟨rfl, by rw [hU], by rw [hU]; exact hP, va_K.moved hW.alike hK, hD.weaken (fun _ _ _ _ => trivial), hN.warm hW⟩⟩ rfl rfl hl.1 rfl (lv_room (Nat.le_of_ble_eq_true rfl)) dX6_readOwnStructure_15 ⟨Nat.le_of_ble_eq_true rfl, Nat.le_of_ble_eq_true rfl⟩) hS (fun q _ h => hFc q h) hFc (fun rr u t H_7 locs ht hvm hw hB hz1 hk1 hS2 => ?_)
  rw [hw]
  clear hw
  obtain ⟨hP1, -, hD1⟩ := hB
  rw [ht] at hP1
  replace hD := hD1.weaken (fun _ _ _ h => hFc _ h)
  replace hP := hP1
  replace hS := hS2
  clear hP1 hD1 hS2 hFc hfc hz1 hk1 hvm ht
  refine lv_istore_n (lv' := [(2, .int r_6), (1, .int v_2), (0, .ref (a h0))]) hx hb dX6_readOwnStructure_18 rfl hl (by decide) rfl (fun ls hl2 => ?_)
  replace hl := hl2
  clear hl2
  refine lv_aload_n hx hb dX6_readOwnStructure_19 rfl (lv_at hl 2 rfl) ?_
  refine va_get (D := (dC, dI)) (ci := 6) (v := .int (z_5.1 h0 4)) (C := RX6) (T := TX6) (N := 9) hx hb hts iwd_X6_readOwnStructure_X6 hown hK hP h0 (Wd_ob kg_1 sg_1 (by decide)) rfl 4 (by decide) (hts _ md_X6_readOwnStructure_4) (fun _ h9 => h9) (fl_at (t := 0) rfl) dX6_readOwnStructure_20 ?_
  refine lv_if_eq (tgt := 44) hx hb dX6_readOwnStructure_23 (by decide) (fun c_8 => ?_) (fun c_8 => ?_)
  · skip
    rw [if_pos c_8] at hf
    refine lv_iload_n hx hb dX6_readOwnStructure_44 rfl (lv_at hl 0 rfl) ?_
    obtain ⟨h8, h9⟩ := ret_some hf
    rw [h8, h9]
    exact W.iret (v := r_6) hx hb hr (fun t ht hW => ⟨⟨r_6, (), rfl, rfl, by rw [ht]; exact hP, va_K.moved hW.alike hK, hD⟩, hS.F ht⟩) hS.2.2 dX6_readOwnStructure_45
  · skip
    rw [if_neg c_8] at hf
    refine lv_iload_n hx hb dX6_readOwnStructure_26 rfl (lv_at hl 0 rfl) ?_
    refine lv_aload_n hx hb dX6_readOwnStructure_27 rfl (lv_at hl 2 rfl) ?_
    obtain ⟨k_9, ek_9, hf⟩ := lnk_some hf
    refine va_get (D := (dC, dI)) (ci := 6) (v := .ref (a k_9)) (C := RX6) (T := TX6) (N := 9) hx hb hts iwd_X6_readOwnStructure_X6 hown hK hP h0 (Wd_ob kg_1 sg_1 (by decide)) rfl 2 (by decide) (hts _ md_X6_readOwnStructure_2) (fun _ h9 => h9) (fl_q rfl ek_9) dX6_readOwnStructure_28 ?_
    obtain ⟨g_10, hf⟩ := grd_some hf
    obtain ⟨kg_10, sg_10⟩ := okO_at g_10
    refine va_get (D := (dC, dI)) (ci := 5) (v := .int (z_5.1 k_9 8)) (C := RX5) (T := TX5) (N := 15) hx hb hts iwd_X6_readOwnStructure_X5 hown hK hP k_9 (Wd_ob kg_10 sg_10 (by decide)) rfl 8 (by decide) (hts _ md_X6_readOwnStructure_5) (fun _ h9 => h9) (fl_at (t := 0) rfl) dX6_readOwnStructure_31 ?_
    refine lv_icmp_lt (tgt := 44) hx hb dX6_readOwnStructure_34 (by decide) (fun c_11 => ?_) (fun c_11 => ?_)
    · skip
      rw [if_pos c_11] at hf
      refine lv_iload_n hx hb dX6_readOwnStructure_44 rfl (lv_at hl 0 rfl) ?_
      obtain ⟨h8, h9⟩ := ret_some hf
      rw [h8, h9]
      exact W.iret (v := r_6) hx hb hr (fun t ht hW => ⟨⟨r_6, (), rfl, rfl, by rw [ht]; exact hP, va_K.moved hW.alike hK, hD⟩, hS.F ht⟩) hS.2.2 dX6_readOwnStructure_45
    · skip
      rw [if_neg c_11] at hf
      refine lv_aload_n hx hb dX6_readOwnStructure_37 rfl (lv_at hl 2 rfl) ?_
      refine lv_bipush (v := 8) hx hb dX6_readOwnStructure_38 (by decide) ?_
      refine lv_iload_n hx hb dX6_readOwnStructure_40 rfl (lv_at hl 1 rfl) ?_
      obtain ⟨z_12, _u, hfc, hf⟩ := cal_some hf
      have hFc := de_free hD hS hA
      refine va_callv (va_runV (As := [.int 8, .int v_2]) (rest := []) ⟨hx, hb, hml, hown, hts⟩ (de_X6_fail l dC dI cy a sh n H_7.size F z_5 h0 8 v_2 hfc) (cwV 2 hts gX6_readOwnStructure_X6_fail rfl rfl rfl (by decide +kernel) ⟨Nat.le_of_ble_eq_true rfl, Nat.le_of_ble_eq_true rfl⟩) ⟨fun a U g mk q => by obtain ⟨q0, q1, qP, qK, qD, qN⟩ := q; exact ⟨q0, q1, qP, va_K.moved (u := U) (U := U.calling g mk a) (Vm.Alike.refl U.vm) qK, qD, qN.same rfl⟩, va_recv hK hP (ci := 6) (q0 := h0) rfl (Wd_ob kg_1 sg_1 (by decide)), fun U hU hW => ⟨rfl, by rw [hU], by rw [hU]; exact hP, va_K.moved hW.alike hK, hD.weaken (fun _ _ _ _ => trivial), hN.warm hW⟩⟩ rfl rfl hl.1 rfl (lv_room (Nat.le_of_ble_eq_true rfl)) dX6_readOwnStructure_41 ⟨Nat.le_of_ble_eq_true rfl, Nat.le_of_ble_eq_true rfl⟩) hS (fun q _ h => hFc q h) hFc (fun u t H_13 locs ht hvm hw hB hz1 hk1 hS2 => ?_)
      obtain ⟨hP1, -, hD1⟩ := hB
      rw [ht] at hP1
      replace hD := hD1.weaken (fun _ _ _ h => hFc _ h)
      replace hP := hP1
      replace hS := hS2
      clear hP1 hD1 hS2 hFc hfc hz1 hk1 hvm ht
      refine lv_iload_n hx hb dX6_readOwnStructure_44 rfl (lv_at hl 0 rfl) ?_
      obtain ⟨h8, h9⟩ := ret_some hf
      rw [h8, h9]
      exact W.iret (v := r_6) hx hb hr (fun t ht hW => ⟨⟨r_6, (), rfl, rfl, by rw [ht]; exact hP, va_K.moved hW.alike hK, hD⟩, hS.F ht⟩) hS.2.2 dX6_readOwnStructure_45

theorem md_X6_readOneType_1 : (.fieldLink RX6 32 "ResourceLedger$Reader" "at" "I" : Cond) ∈ wsX6_readOneType := List.mem_of_getElem? (i := 1) rfl
theorem iwd_X6_readOneType_X6 : ∀ w ∈ wsX60, w ∈ wsX6_readOneType := fun _ h => List.mem_cons_of_mem _ (List.mem_append_left _ (List.mem_append_right _ h))
theorem md_X6_readOneType_2 : (.fieldLink RX6 28 "ResourceLedger$Reader" "judging" "Z" : Cond) ∈ wsX6_readOneType := List.mem_of_getElem? (i := 2) rfl
theorem md_X6_readOneType_3 : (.fieldLink RX6 17 "ResourceLedger$Reader" "p" "LResourceLedger$Program;" : Cond) ∈ wsX6_readOneType := List.mem_of_getElem? (i := 3) rfl
theorem md_X6_readOneType_4 : (.fieldLink RX6 103 "ResourceLedger$Program" "allStructures" "I" : Cond) ∈ wsX6_readOneType := List.mem_of_getElem? (i := 4) rfl
theorem iwd_X6_readOneType_X5 : ∀ w ∈ wsX50, w ∈ wsX6_readOneType := fun _ h => List.mem_cons_of_mem _ (List.mem_append_right _ h)
def fn_X6_readOneType_B111 (F : Nat) (sh : Nat → Nat × Nat) (n : Nat) (p_16 : Int64) (p_18 : Int32) (h0 : Nat) (z_20 : St) : Option (St × Int64) := lt_ (((p_16 <<< ((8 : Int32).toInt64 &&& 63))) ||| ((p_18 : Int32).toInt64)) (fun v_21 => if (p_18 : Int32) = 6 then lt_ (z_20.1 h0 3) (fun v_23 => cal (fn_X6_readByte F sh n z_20 h0) (fun z_24 r_25 => if ((z_24.1 h0 4) : Int32) = 0 then some (z_24, (((v_21 <<< ((8 : Int32).toInt64 &&& 63))) ||| ((r_25 : Int32).toInt64))) else lnk (z_24.2.2 h0 2) (fun k_28 => grd (okO sh n k_28 5) (if (r_25 : Int32) < (z_24.1 k_28 9) then some (z_24, (((v_21 <<< ((8 : Int32).toInt64 &&& 63))) ||| ((r_25 : Int32).toInt64))) else cal (fn_X6_fail F sh n z_24 h0 7 v_23) (fun z_31 _ => some (z_31, (((v_21 <<< ((8 : Int32).toInt64 &&& 63))) ||| ((r_25 : Int32).toInt64)))))))) else some (z_20, v_21))
theorem fn_X6_readOneType_B111_s {F : Nat} {sh : Nat → Nat × Nat} {n : Nat} {p_16 : Int64} {p_18 : Int32} {h0 : Nat} {z_20 : St} {y : St × Int64} (h : fn_X6_readOneType_B111 F sh n p_16 p_18 h0 z_20 = some y) : (lt_ (((p_16 <<< ((8 : Int32).toInt64 &&& 63))) ||| ((p_18 : Int32).toInt64)) (fun v_21 => if (p_18 : Int32) = 6 then lt_ (z_20.1 h0 3) (fun v_23 => cal (fn_X6_readByte F sh n z_20 h0) (fun z_24 r_25 => if ((z_24.1 h0 4) : Int32) = 0 then some (z_24, (((v_21 <<< ((8 : Int32).toInt64 &&& 63))) ||| ((r_25 : Int32).toInt64))) else lnk (z_24.2.2 h0 2) (fun k_28 => grd (okO sh n k_28 5) (if (r_25 : Int32) < (z_24.1 k_28 9) then some (z_24, (((v_21 <<< ((8 : Int32).toInt64 &&& 63))) ||| ((r_25 : Int32).toInt64))) else cal (fn_X6_fail F sh n z_24 h0 7 v_23) (fun z_31 _ => some (z_31, (((v_21 <<< ((8 : Int32).toInt64 &&& 63))) ||| ((r_25 : Int32).toInt64)))))))) else some (z_20, v_21))) = some y := h
def fn_X6_readOneType_B104 (F : Nat) (sh : Nat → Nat × Nat) (n : Nat) (h0 : Nat) (p_17 : Int32) (p_16 : Int64) (p_18 : Int32) (z_33 : St) : Option (St × Int64) := cal (fn_X6_fail F sh n z_33 h0 4 p_17) (fun z_34 _ => fn_X6_readOneType_B111 F sh n p_16 p_18 h0 z_34 )
theorem fn_X6_readOneType_B104_s {F : Nat} {sh : Nat → Nat × Nat} {n : Nat} {h0 : Nat} {p_17 : Int32} {p_16 : Int64} {p_18 : Int32} {z_33 : St} {y : St × Int64} (h : fn_X6_readOneType_B104 F sh n h0 p_17 p_16 p_18 z_33 = some y) : (cal (fn_X6_fail F sh n z_33 h0 4 p_17) (fun z_34 _ => fn_X6_readOneType_B111 F sh n p_16 p_18 h0 z_34 )) = some y := h
def fn_X6_readOneType_B91 (F : Nat) (sh : Nat → Nat × Nat) (n : Nat) (h0 : Nat) (z_19 : St) (p_16 : Int64) (p_17 : Int32) (p_18 : Int32) : Option (St × Int64) := if (p_18 : Int32) < 1 then fn_X6_readOneType_B104 F sh n h0 p_17 p_16 p_18 z_19  else if (p_18 : Int32) ≤ 6 then fn_X6_readOneType_B111 F sh n p_16 p_18 h0 z_19  else fn_X6_readOneType_B104 F sh n h0 p_17 p_16 p_18 z_19 
theorem fn_X6_readOneType_B91_s {F : Nat} {sh : Nat → Nat × Nat} {n : Nat} {h0 : Nat} {z_19 : St} {p_16 : Int64} {p_17 : Int32} {p_18 : Int32} {y : St × Int64} (h : fn_X6_readOneType_B91 F sh n h0 z_19 p_16 p_17 p_18 = some y) : (if (p_18 : Int32) < 1 then fn_X6_readOneType_B104 F sh n h0 p_17 p_16 p_18 z_19  else if (p_18 : Int32) ≤ 6 then fn_X6_readOneType_B111 F sh n p_16 p_18 h0 z_19  else fn_X6_readOneType_B104 F sh n h0 p_17 p_16 p_18 z_19 ) = some y := h
def fn_X6_readOneType_L51 (F : Nat) (sh : Nat → Nat × Nat) (n : Nat) (h0 : Nat) : Nat → St → Int64 → Int32 → Int32 → Int32 → Option (St × Int64)
  | 0, _, _, _, _, _ => none
  | f_15 + 1, z_14, p_10, p_11, p_12, p_13 => if (4 : Int32) ≤ p_13 then fn_X6_readOneType_B91 F sh n h0 z_14 p_10 p_11 p_12 else if (p_12 : Int32) = 7 then lt_ (((p_10 <<< ((8 : Int32).toInt64 &&& 63))) ||| ((p_12 : Int32).toInt64)) (fun v_40 => lt_ (z_14.1 h0 3) (fun v_41 => cal (fn_X6_readByte F sh n z_14 h0) (fun z_42 r_43 => fn_X6_readOneType_L51 F sh n h0 f_15 z_42 v_40 v_41 r_43 (p_13 + 1)))) else fn_X6_readOneType_B91 F sh n h0 z_14 p_10 p_11 p_12
theorem fn_X6_readOneType_L51_s {F : Nat} {sh : Nat → Nat × Nat} {n : Nat} {h0 : Nat} {f_15 : Nat} {z_14 : St} {p_10 : Int64} {p_11 : Int32} {p_12 : Int32} {p_13 : Int32} {y : St × Int64} (h : fn_X6_readOneType_L51 F sh n h0 (f_15 + 1) z_14 p_10 p_11 p_12 p_13 = some y) : (if (4 : Int32) ≤ p_13 then fn_X6_readOneType_B91 F sh n h0 z_14 p_10 p_11 p_12 else if (p_12 : Int32) = 7 then lt_ (((p_10 <<< ((8 : Int32).toInt64 &&& 63))) ||| ((p_12 : Int32).toInt64)) (fun v_40 => lt_ (z_14.1 h0 3) (fun v_41 => cal (fn_X6_readByte F sh n z_14 h0) (fun z_42 r_43 => fn_X6_readOneType_L51 F sh n h0 f_15 z_42 v_40 v_41 r_43 (p_13 + 1)))) else fn_X6_readOneType_B91 F sh n h0 z_14 p_10 p_11 p_12) = some y := h
def fn_X6_readOneType_B48 (F : Nat) (sh : Nat → Nat × Nat) (n : Nat) (h0 : Nat) (z_9 : St) (p_6 : Int64) (p_7 : Int32) (p_8 : Int32) : Option (St × Int64) := fn_X6_readOneType_L51 F sh n h0 F z_9 p_6 p_7 p_8 0
theorem fn_X6_readOneType_B48_s {F : Nat} {sh : Nat → Nat × Nat} {n : Nat} {h0 : Nat} {z_9 : St} {p_6 : Int64} {p_7 : Int32} {p_8 : Int32} {y : St × Int64} (h : fn_X6_readOneType_B48 F sh n h0 z_9 p_6 p_7 p_8 = some y) : (fn_X6_readOneType_L51 F sh n h0 F z_9 p_6 p_7 p_8 0) = some y := h
def fn_X6_readOneType_B32 (F : Nat) (sh : Nat → Nat × Nat) (n : Nat) (r_4 : Int32) (h0 : Nat) (z_46 : St) : Option (St × Int64) := lt_ ((r_4 : Int32).toInt64) (fun v_47 => lt_ (z_46.1 h0 3) (fun v_48 => cal (fn_X6_readByte F sh n z_46 h0) (fun z_49 r_50 => fn_X6_readOneType_B48 F sh n h0 z_49 v_47 v_48 r_50)))
theorem fn_X6_readOneType_B32_s {F : Nat} {sh : Nat → Nat × Nat} {n : Nat} {r_4 : Int32} {h0 : Nat} {z_46 : St} {y : St × Int64} (h : fn_X6_readOneType_B32 F sh n r_4 h0 z_46 = some y) : (lt_ ((r_4 : Int32).toInt64) (fun v_47 => lt_ (z_46.1 h0 3) (fun v_48 => cal (fn_X6_readByte F sh n z_46 h0) (fun z_49 r_50 => fn_X6_readOneType_B48 F sh n h0 z_49 v_47 v_48 r_50)))) = some y := h
def fn_X6_readOneType (F : Nat) (sh : Nat → Nat × Nat) (n : Nat) (z : St) (h0 : Nat) (x0 : Int32) : Option (St × Int64) := grd (okO sh n h0 6) (lt_ (z.1 h0 3) (fun v_2 => cal (fn_X6_readByte F sh n z h0) (fun z_3 r_4 => if (x0 : Int32) = 0 then fn_X6_readOneType_B48 F sh n h0 z_3 0 v_2 r_4 else if (r_4 : Int32) = 8 then fn_X6_readOneType_B32 F sh n r_4 h0 z_3  else if (r_4 : Int32) = 9 then fn_X6_readOneType_B32 F sh n r_4 h0 z_3  else fn_X6_readOneType_B48 F sh n h0 z_3 0 v_2 r_4)))
set_option maxHeartbeats 4000000 in
set_option maxRecDepth 100000 in
theorem de_X6_readOneType (l : Launch) (dC : Nat → ClassId) (dI : Nat → Nat → Nat) (cy : Nat → ClassId) (a : Nat → Nat) (sh : Nat → Nat × Nat) (n sz : Nat) (F : Nat) (z : St) (h0 : Nat) (x0 : Int32) {z8 : St} {r8 : Int64} (hf : fn_X6_readOneType F sh n z h0 x0 = some (z8, r8)) : Met l yX6_readOneType wsX6_readOneType ({ frames := 1, cells := 0, slots := 0, locals := 22 }) (va_Pc [.ref (a h0), .int x0] (fun U => U.heap.size = sz ∧ va_P (dC, dI) vwCl (Wd cy a sh n z) U.heap ∧ va_K (dC, dI) vwCl (TYS cy) U ∧ va_D (fun _ => True) (Wd cy a sh n z) ∧ NK U)) (va_Ql (fun (r9 : Int64) (u : Unit) => r9 = r8) (fun u t => va_P (dC, dI) vwCl (Wd cy a sh n z8) t.heap ∧ va_K (dC, dI) vwCl (TYS cy) t ∧ va_D (va_A (Wd cy a sh n z) sz) (Wd cy a sh n z8)) (va_A (Wd cy a sh n z) sz)) 0 0 (va_A (Wd cy a sh n z) sz) := by
  refine Met.ofW (cc := cX6_readOneType) (maxL := 7) (ret := (some .long)) (by decide) rfl ?_
  intro p e s m args below meth c s₁ B hml hv
  obtain ⟨rfl, hsz, hP, hK, hD0, hN⟩ := hv
  have hx := B.exec
  have hb := B.bytes
  have hr := B.returns
  have hts := atoms_spec (ws := wsX6_readOneType) B.pre
  have hown : s.vm.findClass RX6 = some m.cls := findClass_of_methodNamed B.named
  have hlocks := B.notSynchronized
  subst hsz
  have hD := hD0.self (sz := s.heap.size)
  clear hD0
  generalize hAe : va_A (Wd cy a sh n z) s.heap.size = A at hD ⊢
  have hA : ∀ q : Nat, s.heap.size ≤ q → A q := fun q h => by rw [← hAe]; exact Or.inr h
  clear hAe
  have hS : va_S A s.heap s.heap [] := va_S.rf
  have hl := lv_entry ([.ref (a h0), .int x0]) (n := 7) (Nat.le_of_ble_eq_true rfl)
  rw [lg_entry_eq]
  generalize (lg_sl ([.ref (a h0), .int x0]) ++ List.replicate (7 - (lg_sl ([.ref (a h0), .int x0])).length) Slot.unset).toArray = ls at hl ⊢
  replace hl : lv_has ls 7 [(0, .ref (a h0)), (1, .int x0)] := hl
  unfold fn_X6_readOneType at hf
  refine de_start hS hP (fun H locs hS hP => ?_)
  refine lv_lconst (v := 0) hx hb dX6_readOneType_0 (by decide) ?_
  refine lv_lstore_n (lv' := [(2, .long 0), (0, .ref (a h0)), (1, .int x0)]) hx hb dX6_readOneType_1 rfl hl (by decide) rfl (fun ls hl2 => ?_)
  replace hl := hl2
  clear hl2
  refine lv_aload_n hx hb dX6_readOneType_2 rfl (lv_at hl 1 rfl) ?_
  obtain ⟨g_1, hf⟩ := grd_some hf
  obtain ⟨kg_1, sg_1⟩ := okO_at g_1
  refine va_get (D := (dC, dI)) (ci := 6) (v := .int (z.1 h0 3)) (C := RX6) (T := TX6) (N := 9) hx hb hts iwd_X6_readOneType_X6 hown hK hP h0 (Wd_ob kg_1 sg_1 (by decide)) rfl 3 (by decide) (hts _ md_X6_readOneType_1) (fun _ h9 => h9) (fl_at (t := 0) rfl) dX6_readOneType_3 ?_
  refine lv_topi (fun v_2 ev_2 => ?_)
  replace hf := lt_at ev_2 hf
  clear ev_2
  refine lv_istore (lv' := [(4, .int v_2), (2, .long 0), (0, .ref (a h0)), (1, .int x0)]) hx hb dX6_readOneType_6 hl (by decide) rfl (fun ls hl2 => ?_)
  replace hl := hl2
  clear hl2
  refine lv_aload_n hx hb dX6_readOneType_8 rfl (lv_at hl 2 rfl) ?_
  obtain ⟨z_3, r_4, hfc, hf⟩ := cal_some hf
  have hFc := de_free hD hS hA
  refine va_calli (va_runV (As := []) (rest := []) ⟨hx, hb, hml, hown, hts⟩ (de_X6_readByte l dC dI cy a sh n H.size F z h0 hfc) (cwV 0 hts gX6_readOneType_X6_readByte rfl rfl rfl (by decide +kernel) ⟨Nat.le_of_ble_eq_true rfl, Nat.le_of_ble_eq_true rfl⟩) ⟨fun a U g mk q => by obtain ⟨q0, q1, qP, qK, qD, qN⟩ := q; exact ⟨q0, q1, qP, va_K.moved (u := U) (U := U.calling g mk a) (Vm.Alike.refl U.vm) qK, qD, qN.same rfl⟩, va_recv hK hP (ci := 6) (q0 := h0) rfl (Wd_ob kg_1 sg_1 (by decide)), fun U hU hW => ⟨rfl, by rw [hU], by rw [hU]; exact hP, va_K.moved hW.alike hK, hD.weaken (fun _ _ _ _ => trivial), hN.warm hW⟩⟩ rfl rfl hl.1 rfl (lv_room (Nat.le_of_ble_eq_true rfl)) dX6_readOneType_9 ⟨Nat.le_of_ble_eq_true rfl, Nat.le_of_ble_eq_true rfl⟩) hS (fun q _ h => hFc q h) hFc (fun rr u t H_5 locs ht hvm hw hB hz1 hk1 hS2 => ?_)
  rw [hw]
  clear hw
  obtain ⟨hP1, -, hD1⟩ := hB
  rw [ht] at hP1
  replace hD := hD1.weaken (fun _ _ _ h => hFc _ h)
  replace hP := hP1
  replace hS := hS2
  clear hP1 hD1 hS2 hFc hfc hz1 hk1 hvm ht
  refine lv_istore (lv' := [(5, .int r_4), (4, .int v_2), (2, .long 0), (0, .ref (a h0)), (1, .int x0)]) hx hb dX6_readOneType_12 hl (by decide) rfl (fun ls hl2 => ?_)
  replace hl := hl2
  clear hl2
  refine lv_iload_n hx hb dX6_readOneType_14 rfl (lv_at hl 4 rfl) ?_
  refine de_cut (h := 48) (fun (x : St × Int64 × Int32 × Int32) => []) (fun x ls H locs => lv_has ls 7 [(2, .long x.2.1), (4, .int x.2.2.1), (5, .int x.2.2.2), (0, .ref (a h0))] ∧ va_P (dC, dI) vwCl (Wd cy a sh n x.1) H ∧ va_D A (Wd cy a sh n x.1) ∧ va_S A s.heap H locs) (fun x => fn_X6_readOneType_B48 F sh n h0 x.1 x.2.1 x.2.2.1 x.2.2.2) (z8, r8) ?_ (fun B48 => ?_)
  · intro x ls H locs hI hf
    obtain ⟨z_9, p_6, p_7, p_8⟩ := x
    obtain ⟨hl2, hP2, hD2, hS2⟩ := hI
    replace hl : lv_has ls 7 [(2, .long p_6), (4, .int p_7), (5, .int p_8), (0, .ref (a h0))] := hl2
    replace hP := hP2
    replace hD := hD2
    replace hS := hS2
    clear hl2 hP2 hD2 hS2
    replace hf := fn_X6_readOneType_B48_s hf
    refine W.eq (g2 := F0 m 48 ls []) rfl ?_
    refine lv_iconst (v := 0) hx hb dX6_readOneType_48 (by decide) ?_
    refine lv_istore (lv' := [(6, .int 0), (2, .long p_6), (4, .int p_7), (5, .int p_8), (0, .ref (a h0))]) hx hb dX6_readOneType_49 hl (by decide) rfl (fun ls hl2 => ?_)
    replace hl := hl2
    clear hl2
    have hl0 : lv_has ls 7 [(6, .int 0), (2, .long p_6), (4, .int p_7), (5, .int p_8), (0, .ref (a h0))] := lv_sub hl [0, 1, 2, 3, 4] rfl
    refine de_loop (h := 51) (fun (x : St × Int64 × Int32 × Int32 × Int32) ls H locs => lv_has ls 7 [(6, .int x.2.2.2.2), (2, .long x.2.1), (4, .int x.2.2.1), (5, .int x.2.2.2.1), (0, .ref (a h0))] ∧ va_P (dC, dI) vwCl (Wd cy a sh n x.1) H ∧ va_D A (Wd cy a sh n x.1) ∧ va_S A s.heap H locs) (fun f x => fn_X6_readOneType_L51 F sh n h0 f x.1 x.2.1 x.2.2.1 x.2.2.2.1 x.2.2.2.2) (z8, r8) ?_ (fun _ => rfl) F (z_9, p_6, p_7, p_8, 0) ls H locs ⟨hl0, hP, hD, hS⟩ hf
    intro f_15 x ls H locs ih51 hI hf
    obtain ⟨z_14, p_10, p_11, p_12, p_13⟩ := x
    obtain ⟨hl2, hP2, hD2, hS2⟩ := hI
    replace hl : lv_has ls 7 [(6, .int p_13), (2, .long p_10), (4, .int p_11), (5, .int p_12), (0, .ref (a h0))] := hl2
    replace hP := hP2
    replace hD := hD2
    replace hS := hS2
    clear hl2 hP2 hD2 hS2 hl0
    replace hf := fn_X6_readOneType_L51_s hf
    refine lv_iload hx hb dX6_readOneType_51 (lv_at hl 0 rfl) ?_
    refine lv_iconst (v := 4) hx hb dX6_readOneType_53 (by decide) ?_
    refine de_cut (h := 91) (fun (x : St × Int64 × Int32 × Int32) => []) (fun x ls H locs => lv_has ls 7 [(2, .long x.2.1), (4, .int x.2.2.1), (5, .int x.2.2.2), (0, .ref (a h0))] ∧ va_P (dC, dI) vwCl (Wd cy a sh n x.1) H ∧ va_D A (Wd cy a sh n x.1) ∧ va_S A s.heap H locs) (fun x => fn_X6_readOneType_B91 F sh n h0 x.1 x.2.1 x.2.2.1 x.2.2.2) (z8, r8) ?_ (fun B91 => ?_)
    · intro x ls H locs hI hf
      obtain ⟨z_19, p_16, p_17, p_18⟩ := x
      obtain ⟨hl2, hP2, hD2, hS2⟩ := hI
      replace hl : lv_has ls 7 [(2, .long p_16), (4, .int p_17), (5, .int p_18), (0, .ref (a h0))] := hl2
      replace hP := hP2
      replace hD := hD2
      replace hS := hS2
      clear hl2 hP2 hD2 hS2
      replace hf := fn_X6_readOneType_B91_s hf
      refine W.eq (g2 := F0 m 91 ls []) rfl ?_
      refine lv_iload hx hb dX6_readOneType_91 (lv_at hl 2 rfl) ?_
      refine lv_iconst (v := 1) hx hb dX6_readOneType_93 (by decide) ?_
      refine de_cut (h := 111) (fun (x : St) => []) (fun x ls H locs => lv_has ls 7 [(2, .long p_16), (5, .int p_18), (0, .ref (a h0))] ∧ va_P (dC, dI) vwCl (Wd cy a sh n x) H ∧ va_D A (Wd cy a sh n x) ∧ va_S A s.heap H locs) (fun x => fn_X6_readOneType_B111 F sh n p_16 p_18 h0 x) (z8, r8) ?_ (fun B111 => ?_)
      · intro x ls H locs hI hf
        obtain ⟨z_20, ez⟩ : ∃ w, w = x := ⟨_, rfl⟩
        subst ez
        obtain ⟨hl2, hP2, hD2, hS2⟩ := hI
        replace hl : lv_has ls 7 [(2, .long p_16), (5, .int p_18), (0, .ref (a h0))] := hl2
        replace hP := hP2
        replace hD := hD2
        replace hS := hS2
        clear hl2 hP2 hD2 hS2
        replace hf := fn_X6_readOneType_B111_s hf
        refine W.eq (g2 := F0 m 111 ls []) rfl ?_
        refine lv_lload_n hx hb dX6_readOneType_111 rfl (lv_at hl 0 rfl) ?_
        refine lv_bipush (v := 8) hx hb dX6_readOneType_112 (by decide) ?_
        refine lv_lshl (v := (p_16 <<< ((8 : Int32).toInt64 &&& 63))) hx hb dX6_readOneType_114 rfl ?_
        refine lv_iload hx hb dX6_readOneType_115 (lv_at hl 1 rfl) ?_
        refine lv_i2l (v := (p_18 : Int32).toInt64) hx hb dX6_readOneType_117 rfl ?_
        refine lv_lor hx hb dX6_readOneType_118 ?_
        refine lv_topl (fun v_21 ev_21 => ?_)
        replace hf := lt_at ev_21 hf
        clear ev_21
        refine lv_lstore_n (lv' := [(2, .long v_21), (5, .int p_18), (0, .ref (a h0))]) hx hb dX6_readOneType_119 rfl hl (by decide) rfl (fun ls hl2 => ?_)
        replace hl := hl2
        clear hl2
        refine lv_iload hx hb dX6_readOneType_120 (lv_at hl 1 rfl) ?_
        refine lv_bipush (v := 6) hx hb dX6_readOneType_122 (by decide) ?_
        refine lv_icmp_eq (tgt := 129) hx hb dX6_readOneType_124 (by decide) (fun c_22 => ?_) (fun c_22 => ?_)
        · skip
          rw [if_pos c_22] at hf
          refine lv_aload_n hx hb dX6_readOneType_129 rfl (lv_at hl 2 rfl) ?_
          refine va_get (D := (dC, dI)) (ci := 6) (v := .int (z_20.1 h0 3)) (C := RX6) (T := TX6) (N := 9) hx hb hts iwd_X6_readOneType_X6 hown hK hP h0 (Wd_ob kg_1 sg_1 (by decide)) rfl 3 (by decide) (hts _ md_X6_readOneType_1) (fun _ h9 => h9) (fl_at (t := 0) rfl) dX6_readOneType_130 ?_
          refine lv_topi (fun v_23 ev_23 => ?_)
          replace hf := lt_at ev_23 hf
          clear ev_23
          refine lv_istore (lv' := [(4, .int v_23), (2, .long v_21), (5, .int p_18), (0, .ref (a h0))]) hx hb dX6_readOneType_133 hl (by decide) rfl (fun ls hl2 => ?_)
          replace hl := hl2
          clear hl2
          refine lv_aload_n hx hb dX6_readOneType_135 rfl (lv_at hl 3 rfl) ?_
          obtain ⟨z_24, r_25, hfc, hf⟩ := cal_some hf
          have hFc := de_free hD hS hA
          refine va_calli (va_runV (As := []) (rest := []) ⟨hx, hb, hml, hown, hts⟩ (de_X6_readByte l dC dI cy a sh n H.size F z_20 h0 hfc) (cwV 0 hts gX6_readOneType_X6_readByte rfl rfl rfl (by decide +kernel) ⟨Nat.le_of_ble_eq_true rfl, Nat.le_of_ble_eq_true rfl⟩) ⟨fun a U g mk q => by obtain ⟨q0, q1, qP, qK, qD, qN⟩ := q; exact ⟨q0, q1, qP, va_K.moved (u := U) (U := U.calling g mk a) (Vm.Alike.refl U.vm) qK, qD, qN.same rfl⟩, va_recv hK hP (ci := 6) (q0 := h0) rfl (Wd_ob kg_1 sg_1 (by decide)), fun U hU hW => ⟨rfl, by rw [hU], by rw [hU]; exact hP, va_K.moved hW.alike hK, hD.weaken (fun _ _ _ _ => trivial), hN.warm hW⟩⟩ rfl rfl hl.1 rfl (lv_room (Nat.le_of_ble_eq_true rfl)) dX6_readOneType_136 ⟨Nat.le_of_ble_eq_true rfl, Nat.le_of_ble_eq_true rfl⟩) hS (fun q _ h => hFc q h) hFc (fun rr u t H_26 locs ht hvm hw hB hz1 hk1 hS2 => ?_)
          rw [hw]
          clear hw
          obtain ⟨hP1, -, hD1⟩ := hB
          rw [ht] at hP1
          replace hD := hD1.weaken (fun _ _ _ h => hFc _ h)
          replace hP := hP1
          replace hS := hS2
          clear hP1 hD1 hS2 hFc hfc hz1 hk1 hvm ht
          refine lv_istore (lv' := [(6, .int r_25), (4, .int v_23), (2, .long v_21), (5, .int p_18), (0, .ref (a h0))]) hx hb dX6_readOneType_139 hl (by decide) rfl (fun ls hl2 => ?_)
          replace hl := hl2
          clear hl2
          refine lv_aload_n hx hb dX6_readOneType_141 rfl (lv_at hl 4 rfl) ?_
          refine va_get (D := (dC, dI)) (ci := 6) (v := .int (z_24.1 h0 4)) (C := RX6) (T := TX6) (N := 9) hx hb hts iwd_X6_readOneType_X6 hown hK hP h0 (Wd_ob kg_1 sg_1 (by decide)) rfl 4 (by decide) (hts _ md_X6_readOneType_2) (fun _ h9 => h9) (fl_at (t := 0) rfl) dX6_readOneType_142 ?_
          refine lv_if_eq (tgt := 168) hx hb dX6_readOneType_145 (by decide) (fun c_27 => ?_) (fun c_27 => ?_)
          · skip
            rw [if_pos c_27] at hf
            refine lv_lload_n hx hb dX6_readOneType_168 rfl (lv_at hl 2 rfl) ?_
            refine lv_bipush (v := 8) hx hb dX6_readOneType_169 (by decide) ?_
            refine lv_lshl (v := (v_21 <<< ((8 : Int32).toInt64 &&& 63))) hx hb dX6_readOneType_171 rfl ?_
            refine lv_iload hx hb dX6_readOneType_172 (lv_at hl 0 rfl) ?_
            refine lv_i2l (v := (r_25 : Int32).toInt64) hx hb dX6_readOneType_174 rfl ?_
            refine lv_lor hx hb dX6_readOneType_175 ?_
            obtain ⟨h8, h9⟩ := ret_some hf
            rw [h8, h9]
            exact W.lret (v := (((v_21 <<< ((8 : Int32).toInt64 &&& 63))) ||| ((r_25 : Int32).toInt64))) hx hb hr (fun t ht hW => ⟨⟨(((v_21 <<< ((8 : Int32).toInt64 &&& 63))) ||| ((r_25 : Int32).toInt64)), (), rfl, rfl, by rw [ht]; exact hP, va_K.moved hW.alike hK, hD⟩, hS.F ht⟩) hS.2.2 dX6_readOneType_176
          · skip
            rw [if_neg c_27] at hf
            refine lv_iload hx hb dX6_readOneType_148 (lv_at hl 0 rfl) ?_
            refine lv_aload_n hx hb dX6_readOneType_150 rfl (lv_at hl 4 rfl) ?_
            obtain ⟨k_28, ek_28, hf⟩ := lnk_some hf
            refine va_get (D := (dC, dI)) (ci := 6) (v := .ref (a k_28)) (C := RX6) (T := TX6) (N := 9) hx hb hts iwd_X6_readOneType_X6 hown hK hP h0 (Wd_ob kg_1 sg_1 (by decide)) rfl 2 (by decide) (hts _ md_X6_readOneType_3) (fun _ h9 => h9) (fl_q rfl ek_28) dX6_readOneType_151 ?_
            obtain ⟨g_29, hf⟩ := grd_some hf
            obtain ⟨kg_29, sg_29⟩ := okO_at g_29
            refine va_get (D := (dC, dI)) (ci := 5) (v := .int (z_24.1 k_28 9)) (C := RX5) (T := TX5) (N := 15) hx hb hts iwd_X6_readOneType_X5 hown hK hP k_28 (Wd_ob kg_29 sg_29 (by decide)) rfl 9 (by decide) (hts _ md_X6_readOneType_4) (fun _ h9 => h9) (fl_at (t := 0) rfl) dX6_readOneType_154 ?_
            refine lv_icmp_lt (tgt := 168) hx hb dX6_readOneType_157 (by decide) (fun c_30 => ?_) (fun c_30 => ?_)
            · skip
              rw [if_pos c_30] at hf
              refine lv_lload_n hx hb dX6_readOneType_168 rfl (lv_at hl 2 rfl) ?_
              refine lv_bipush (v := 8) hx hb dX6_readOneType_169 (by decide) ?_
              refine lv_lshl (v := (v_21 <<< ((8 : Int32).toInt64 &&& 63))) hx hb dX6_readOneType_171 rfl ?_
              refine lv_iload hx hb dX6_readOneType_172 (lv_at hl 0 rfl) ?_
              refine lv_i2l (v := (r_25 : Int32).toInt64) hx hb dX6_readOneType_174 rfl ?_
              refine lv_lor hx hb dX6_readOneType_175 ?_
              obtain ⟨h8, h9⟩ := ret_some hf
              rw [h8, h9]
              exact W.lret (v := (((v_21 <<< ((8 : Int32).toInt64 &&& 63))) ||| ((r_25 : Int32).toInt64))) hx hb hr (fun t ht hW => ⟨⟨(((v_21 <<< ((8 : Int32).toInt64 &&& 63))) ||| ((r_25 : Int32).toInt64)), (), rfl, rfl, by rw [ht]; exact hP, va_K.moved hW.alike hK, hD⟩, hS.F ht⟩) hS.2.2 dX6_readOneType_176
            · skip
              rw [if_neg c_30] at hf
              refine lv_aload_n hx hb dX6_readOneType_160 rfl (lv_at hl 4 rfl) ?_
              refine lv_bipush (v := 7) hx hb dX6_readOneType_161 (by decide) ?_
              refine lv_iload hx hb dX6_readOneType_163 (lv_at hl 1 rfl) ?_
              obtain ⟨z_31, _u, hfc, hf⟩ := cal_some hf
              have hFc := de_free hD hS hA
              refine va_callv (va_runV (As := [.int 7, .int v_23]) (rest := []) ⟨hx, hb, hml, hown, hts⟩ (de_X6_fail l dC dI cy a sh n H_26.size F z_24 h0 7 v_23 hfc) (cwV 2 hts gX6_readOneType_X6_fail rfl rfl rfl (by decide +kernel) ⟨Nat.le_of_ble_eq_true rfl, Nat.le_of_ble_eq_true rfl⟩) ⟨fun a U g mk q => by obtain ⟨q0, q1, qP, qK, qD, qN⟩ := q; exact ⟨q0, q1, qP, va_K.moved (u := U) (U := U.calling g mk a) (Vm.Alike.refl U.vm) qK, qD, qN.same rfl⟩, va_recv hK hP (ci := 6) (q0 := h0) rfl (Wd_ob kg_1 sg_1 (by decide)), fun U hU hW => ⟨rfl, by rw [hU], by rw [hU]; exact hP, va_K.moved hW.alike hK, hD.weaken (fun _ _ _ _ => trivial), hN.warm hW⟩⟩ rfl rfl hl.1 rfl (lv_room (Nat.le_of_ble_eq_true rfl)) dX6_readOneType_165 ⟨Nat.le_of_ble_eq_true rfl, Nat.le_of_ble_eq_true rfl⟩) hS (fun q _ h => hFc q h) hFc (fun u t H_32 locs ht hvm hw hB hz1 hk1 hS2 => ?_)
              obtain ⟨hP1, -, hD1⟩ := hB
              rw [ht] at hP1
              replace hD := hD1.weaken (fun _ _ _ h => hFc _ h)
              replace hP := hP1
              replace hS := hS2
              clear hP1 hD1 hS2 hFc hfc hz1 hk1 hvm ht
              refine lv_lload_n hx hb dX6_readOneType_168 rfl (lv_at hl 2 rfl) ?_
              refine lv_bipush (v := 8) hx hb dX6_readOneType_169 (by decide) ?_
              refine lv_lshl (v := (v_21 <<< ((8 : Int32).toInt64 &&& 63))) hx hb dX6_readOneType_171 rfl ?_
              refine lv_iload hx hb dX6_readOneType_172 (lv_at hl 0 rfl) ?_
              refine lv_i2l (v := (r_25 : Int32).toInt64) hx hb dX6_readOneType_174 rfl ?_
              refine lv_lor hx hb dX6_readOneType_175 ?_
              obtain ⟨h8, h9⟩ := ret_some hf
              rw [h8, h9]
              exact W.lret (v := (((v_21 <<< ((8 : Int32).toInt64 &&& 63))) ||| ((r_25 : Int32).toInt64))) hx hb hr (fun t ht hW => ⟨⟨(((v_21 <<< ((8 : Int32).toInt64 &&& 63))) ||| ((r_25 : Int32).toInt64)), (), rfl, rfl, by rw [ht]; exact hP, va_K.moved hW.alike hK, hD⟩, hS.F ht⟩) hS.2.2 dX6_readOneType_176
        · skip
          rw [if_neg c_22] at hf
          refine lv_lload_n hx hb dX6_readOneType_127 rfl (lv_at hl 0 rfl) ?_
          obtain ⟨h8, h9⟩ := ret_some hf
          rw [h8, h9]
          exact W.lret (v := v_21) hx hb hr (fun t ht hW => ⟨⟨v_21, (), rfl, rfl, by rw [ht]; exact hP, va_K.moved hW.alike hK, hD⟩, hS.F ht⟩) hS.2.2 dX6_readOneType_128
      refine de_cut (h := 104) (fun (x : St) => []) (fun x ls H locs => lv_has ls 7 [(2, .long p_16), (4, .int p_17), (5, .int p_18), (0, .ref (a h0))] ∧ va_P (dC, dI) vwCl (Wd cy a sh n x) H ∧ va_D A (Wd cy a sh n x) ∧ va_S A s.heap H locs) (fun x => fn_X6_readOneType_B104 F sh n h0 p_17 p_16 p_18 x) (z8, r8) ?_ (fun B104 => ?_)
      · intro x ls H locs hI hf
        obtain ⟨z_33, ez⟩ : ∃ w, w = x := ⟨_, rfl⟩
        subst ez
        obtain ⟨hl2, hP2, hD2, hS2⟩ := hI
        replace hl : lv_has ls 7 [(2, .long p_16), (4, .int p_17), (5, .int p_18), (0, .ref (a h0))] := hl2
        replace hP := hP2
        replace hD := hD2
        replace hS := hS2
        clear hl2 hP2 hD2 hS2
        replace hf := fn_X6_readOneType_B104_s hf
        refine W.eq (g2 := F0 m 104 ls []) rfl ?_
        refine lv_aload_n hx hb dX6_readOneType_104 rfl (lv_at hl 3 rfl) ?_
        refine lv_iconst (v := 4) hx hb dX6_readOneType_105 (by decide) ?_
        refine lv_iload hx hb dX6_readOneType_106 (lv_at hl 1 rfl) ?_
        obtain ⟨z_34, _u, hfc, hf⟩ := cal_some hf
        have hFc := de_free hD hS hA
        refine va_callv (va_runV (As := [.int 4, .int p_17]) (rest := []) ⟨hx, hb, hml, hown, hts⟩ (de_X6_fail l dC dI cy a sh n H.size F z_33 h0 4 p_17 hfc) (cwV 2 hts gX6_readOneType_X6_fail rfl rfl rfl (by decide +kernel) ⟨Nat.le_of_ble_eq_true rfl, Nat.le_of_ble_eq_true rfl⟩) ⟨fun a U g mk q => by obtain ⟨q0, q1, qP, qK, qD, qN⟩ := q; exact ⟨q0, q1, qP, va_K.moved (u := U) (U := U.calling g mk a) (Vm.Alike.refl U.vm) qK, qD, qN.same rfl⟩, va_recv hK hP (ci := 6) (q0 := h0) rfl (Wd_ob kg_1 sg_1 (by decide)), fun U hU hW => ⟨rfl, by rw [hU], by rw [hU]; exact hP, va_K.moved hW.alike hK, hD.weaken (fun _ _ _ _ => trivial), hN.warm hW⟩⟩ rfl rfl hl.1 rfl (lv_room (Nat.le_of_ble_eq_true rfl)) dX6_readOneType_108 ⟨Nat.le_of_ble_eq_true rfl, Nat.le_of_ble_eq_true rfl⟩) hS (fun q _ h => hFc q h) hFc (fun u t H_35 locs ht hvm hw hB hz1 hk1 hS2 => ?_)
        obtain ⟨hP1, -, hD1⟩ := hB
        rw [ht] at hP1
        replace hD := hD1.weaken (fun _ _ _ h => hFc _ h)
        replace hP := hP1
        replace hS := hS2
        clear hP1 hD1 hS2 hFc hfc hz1 hk1 hvm ht
        exact B111 (z_34) ls H_35 locs ⟨lv_sub hl [0, 2, 3] rfl, hP, hD, hS⟩ hf
      refine lv_icmp_lt (tgt := 104) hx hb dX6_readOneType_94 (by decide) (fun c_36 => ?_) (fun c_36 => ?_)
      · skip
        rw [if_pos c_36] at hf
        exact B104 (z_19) ls H locs ⟨lv_sub hl [0, 1, 2, 3] rfl, hP, hD, hS⟩ hf
      · skip
        rw [if_neg c_36] at hf
        refine lv_iload hx hb dX6_readOneType_97 (lv_at hl 2 rfl) ?_
        refine lv_bipush (v := 6) hx hb dX6_readOneType_99 (by decide) ?_
        refine lv_icmp_le (tgt := 111) hx hb dX6_readOneType_101 (by decide) (fun c_37 => ?_) (fun c_37 => ?_)
        · skip
          rw [if_pos c_37] at hf
          exact B111 (z_19) ls H locs ⟨lv_sub hl [0, 2, 3] rfl, hP, hD, hS⟩ hf
        · skip
          rw [if_neg c_37] at hf
          exact B104 (z_19) ls H locs ⟨lv_sub hl [0, 1, 2, 3] rfl, hP, hD, hS⟩ hf
    refine lv_icmp_ge (tgt := 91) hx hb dX6_readOneType_54 (by decide) (fun c_38 => ?_) (fun c_38 => ?_)
    · skip
      rw [if_pos c_38] at hf
      exact B91 (z_14, p_10, p_11, p_12) ls H locs ⟨lv_sub hl [1, 2, 3, 4] rfl, hP, hD, hS⟩ hf
    · skip
      rw [if_neg c_38] at hf
      refine lv_iload hx hb dX6_readOneType_57 (lv_at hl 3 rfl) ?_
      refine lv_bipush (v := 7) hx hb dX6_readOneType_59 (by decide) ?_
      refine lv_icmp_ne (tgt := 91) hx hb dX6_readOneType_61 (by decide) (fun c_39 => ?_) (fun c_39 => ?_)
      · skip
        rw [if_neg c_39] at hf
        exact B91 (z_14, p_10, p_11, p_12) ls H locs ⟨lv_sub hl [1, 2, 3, 4] rfl, hP, hD, hS⟩ hf
      · skip
        rw [if_pos c_39] at hf
        refine lv_lload_n hx hb dX6_readOneType_64 rfl (lv_at hl 1 rfl) ?_
        refine lv_bipush (v := 8) hx hb dX6_readOneType_65 (by decide) ?_
        refine lv_lshl (v := (p_10 <<< ((8 : Int32).toInt64 &&& 63))) hx hb dX6_readOneType_67 rfl ?_
        refine lv_iload hx hb dX6_readOneType_68 (lv_at hl 3 rfl) ?_
        refine lv_i2l (v := (p_12 : Int32).toInt64) hx hb dX6_readOneType_70 rfl ?_
        refine lv_lor hx hb dX6_readOneType_71 ?_
        refine lv_topl (fun v_40 ev_40 => ?_)
        replace hf := lt_at ev_40 hf
        clear ev_40
        refine lv_lstore_n (lv' := [(2, .long v_40), (6, .int p_13), (4, .int p_11), (5, .int p_12), (0, .ref (a h0))]) hx hb dX6_readOneType_72 rfl hl (by decide) rfl (fun ls hl2 => ?_)
        replace hl := hl2
        clear hl2
        refine lv_aload_n hx hb dX6_readOneType_73 rfl (lv_at hl 4 rfl) ?_
        refine va_get (D := (dC, dI)) (ci := 6) (v := .int (z_14.1 h0 3)) (C := RX6) (T := TX6) (N := 9) hx hb hts iwd_X6_readOneType_X6 hown hK hP h0 (Wd_ob kg_1 sg_1 (by decide)) rfl 3 (by decide) (hts _ md_X6_readOneType_1) (fun _ h9 => h9) (fl_at (t := 0) rfl) dX6_readOneType_74 ?_
        refine lv_topi (fun v_41 ev_41 => ?_)
        replace hf := lt_at ev_41 hf
        clear ev_41
        refine lv_istore (lv' := [(4, .int v_41), (2, .long v_40), (6, .int p_13), (5, .int p_12), (0, .ref (a h0))]) hx hb dX6_readOneType_77 hl (by decide) rfl (fun ls hl2 => ?_)
        replace hl := hl2
        clear hl2
        refine lv_aload_n hx hb dX6_readOneType_79 rfl (lv_at hl 4 rfl) ?_
        obtain ⟨z_42, r_43, hfc, hf⟩ := cal_some hf
        have hFc := de_free hD hS hA
        refine va_calli (va_runV (As := []) (rest := []) ⟨hx, hb, hml, hown, hts⟩ (de_X6_readByte l dC dI cy a sh n H.size F z_14 h0 hfc) (cwV 0 hts gX6_readOneType_X6_readByte rfl rfl rfl (by decide +kernel) ⟨Nat.le_of_ble_eq_true rfl, Nat.le_of_ble_eq_true rfl⟩) ⟨fun a U g mk q => by obtain ⟨q0, q1, qP, qK, qD, qN⟩ := q; exact ⟨q0, q1, qP, va_K.moved (u := U) (U := U.calling g mk a) (Vm.Alike.refl U.vm) qK, qD, qN.same rfl⟩, va_recv hK hP (ci := 6) (q0 := h0) rfl (Wd_ob kg_1 sg_1 (by decide)), fun U hU hW => ⟨rfl, by rw [hU], by rw [hU]; exact hP, va_K.moved hW.alike hK, hD.weaken (fun _ _ _ _ => trivial), hN.warm hW⟩⟩ rfl rfl hl.1 rfl (lv_room (Nat.le_of_ble_eq_true rfl)) dX6_readOneType_80 ⟨Nat.le_of_ble_eq_true rfl, Nat.le_of_ble_eq_true rfl⟩) hS (fun q _ h => hFc q h) hFc (fun rr u t H_44 locs ht hvm hw hB hz1 hk1 hS2 => ?_)
        rw [hw]
        clear hw
        obtain ⟨hP1, -, hD1⟩ := hB
        rw [ht] at hP1
        replace hD := hD1.weaken (fun _ _ _ h => hFc _ h)
        replace hP := hP1
        replace hS := hS2
        clear hP1 hD1 hS2 hFc hfc hz1 hk1 hvm ht
        refine lv_istore (lv' := [(5, .int r_43), (4, .int v_41), (2, .long v_40), (6, .int p_13), (0, .ref (a h0))]) hx hb dX6_readOneType_83 hl (by decide) rfl (fun ls hl2 => ?_)
        replace hl := hl2
        clear hl2
        refine lv_iinc (v := (p_13 + 1)) (lv' := [(6, .int (p_13 + 1)), (5, .int r_43), (4, .int v_41), (2, .long v_40), (0, .ref (a h0))]) hx hb dX6_readOneType_85 hl (k := 3) rfl rfl (by decide) rfl (fun ls hl2 => ?_)
        replace hl := hl2
        clear hl2
        refine lv_goto (tgt := 51) hx hb dX6_readOneType_88 (by decide) ?_
        exact ih51 (z_42, v_40, v_41, r_43, (p_13 + 1)) ls H_44 locs ⟨lv_sub hl [0, 3, 2, 1, 4] rfl, hP, hD, hS⟩ hf
  refine lv_if_eq (tgt := 48) hx hb dX6_readOneType_15 (by decide) (fun c_45 => ?_) (fun c_45 => ?_)
  · skip
    rw [if_pos c_45] at hf
    exact B48 (z_3, 0, v_2, r_4) ls H_5 locs ⟨lv_sub hl [2, 1, 0, 3] rfl, hP, hD, hS⟩ hf
  · skip
    rw [if_neg c_45] at hf
    refine lv_iload hx hb dX6_readOneType_18 (lv_at hl 0 rfl) ?_
    refine lv_bipush (v := 8) hx hb dX6_readOneType_20 (by decide) ?_
    refine de_cut (h := 32) (fun (x : St) => []) (fun x ls H locs => lv_has ls 7 [(5, .int r_4), (0, .ref (a h0))] ∧ va_P (dC, dI) vwCl (Wd cy a sh n x) H ∧ va_D A (Wd cy a sh n x) ∧ va_S A s.heap H locs) (fun x => fn_X6_readOneType_B32 F sh n r_4 h0 x) (z8, r8) ?_ (fun B32 => ?_)
    · intro x ls H locs hI hf
      obtain ⟨z_46, ez⟩ : ∃ w, w = x := ⟨_, rfl⟩
      subst ez
      obtain ⟨hl2, hP2, hD2, hS2⟩ := hI
      replace hl : lv_has ls 7 [(5, .int r_4), (0, .ref (a h0))] := hl2
      replace hP := hP2
      replace hD := hD2
      replace hS := hS2
      clear hl2 hP2 hD2 hS2
      replace hf := fn_X6_readOneType_B32_s hf
      refine W.eq (g2 := F0 m 32 ls []) rfl ?_
      refine lv_iload hx hb dX6_readOneType_32 (lv_at hl 0 rfl) ?_
      refine lv_i2l (v := (r_4 : Int32).toInt64) hx hb dX6_readOneType_34 rfl ?_
      refine lv_topl (fun v_47 ev_47 => ?_)
      replace hf := lt_at ev_47 hf
      clear ev_47
      refine lv_lstore_n (lv' := [(2, .long v_47), (5, .int r_4), (0, .ref (a h0))]) hx hb dX6_readOneType_35 rfl hl (by decide) rfl (fun ls hl2 => ?_)
      replace hl := hl2
      clear hl2
      refine lv_aload_n hx hb dX6_readOneType_36 rfl (lv_at hl 2 rfl) ?_
      refine va_get (D := (dC, dI)) (ci := 6) (v := .int (z_46.1 h0 3)) (C := RX6) (T := TX6) (N := 9) hx hb hts iwd_X6_readOneType_X6 hown hK hP h0 (Wd_ob kg_1 sg_1 (by decide)) rfl 3 (by decide) (hts _ md_X6_readOneType_1) (fun _ h9 => h9) (fl_at (t := 0) rfl) dX6_readOneType_37 ?_
      refine lv_topi (fun v_48 ev_48 => ?_)
      replace hf := lt_at ev_48 hf
      clear ev_48
      refine lv_istore (lv' := [(4, .int v_48), (2, .long v_47), (5, .int r_4), (0, .ref (a h0))]) hx hb dX6_readOneType_40 hl (by decide) rfl (fun ls hl2 => ?_)
      replace hl := hl2
      clear hl2
      refine lv_aload_n hx hb dX6_readOneType_42 rfl (lv_at hl 3 rfl) ?_
      obtain ⟨z_49, r_50, hfc, hf⟩ := cal_some hf
      have hFc := de_free hD hS hA
      refine va_calli (va_runV (As := []) (rest := []) ⟨hx, hb, hml, hown, hts⟩ (de_X6_readByte l dC dI cy a sh n H.size F z_46 h0 hfc) (cwV 0 hts gX6_readOneType_X6_readByte rfl rfl rfl (by decide +kernel) ⟨Nat.le_of_ble_eq_true rfl, Nat.le_of_ble_eq_true rfl⟩) ⟨fun a U g mk q => by obtain ⟨q0, q1, qP, qK, qD, qN⟩ := q; exact ⟨q0, q1, qP, va_K.moved (u := U) (U := U.calling g mk a) (Vm.Alike.refl U.vm) qK, qD, qN.same rfl⟩, va_recv hK hP (ci := 6) (q0 := h0) rfl (Wd_ob kg_1 sg_1 (by decide)), fun U hU hW => ⟨rfl, by rw [hU], by rw [hU]; exact hP, va_K.moved hW.alike hK, hD.weaken (fun _ _ _ _ => trivial), hN.warm hW⟩⟩ rfl rfl hl.1 rfl (lv_room (Nat.le_of_ble_eq_true rfl)) dX6_readOneType_43 ⟨Nat.le_of_ble_eq_true rfl, Nat.le_of_ble_eq_true rfl⟩) hS (fun q _ h => hFc q h) hFc (fun rr u t H_51 locs ht hvm hw hB hz1 hk1 hS2 => ?_)
      rw [hw]
      clear hw
      obtain ⟨hP1, -, hD1⟩ := hB
      rw [ht] at hP1
      replace hD := hD1.weaken (fun _ _ _ h => hFc _ h)
      replace hP := hP1
      replace hS := hS2
      clear hP1 hD1 hS2 hFc hfc hz1 hk1 hvm ht
      refine lv_istore (lv' := [(5, .int r_50), (4, .int v_48), (2, .long v_47), (0, .ref (a h0))]) hx hb dX6_readOneType_46 hl (by decide) rfl (fun ls hl2 => ?_)
      replace hl := hl2
      clear hl2
      exact B48 (z_49, v_47, v_48, r_50) ls H_51 locs ⟨lv_sub hl [2, 1, 0, 3] rfl, hP, hD, hS⟩ hf
    refine lv_icmp_eq (tgt := 32) hx hb dX6_readOneType_22 (by decide) (fun c_52 => ?_) (fun c_52 => ?_)
    · skip
      rw [if_pos c_52] at hf
      exact B32 (z_3) ls H_5 locs ⟨lv_sub hl [0, 3] rfl, hP, hD, hS⟩ hf
    · skip
      rw [if_neg c_52] at hf
      refine lv_iload hx hb dX6_readOneType_25 (lv_at hl 0 rfl) ?_
      refine lv_bipush (v := 9) hx hb dX6_readOneType_27 (by decide) ?_
      refine lv_icmp_ne (tgt := 48) hx hb dX6_readOneType_29 (by decide) (fun c_53 => ?_) (fun c_53 => ?_)
      · skip
        rw [if_neg c_53] at hf
        exact B48 (z_3, 0, v_2, r_4) ls H_5 locs ⟨lv_sub hl [2, 1, 0, 3] rfl, hP, hD, hS⟩ hf
      · skip
        rw [if_pos c_53] at hf
        exact B32 (z_3) ls H_5 locs ⟨lv_sub hl [0, 3] rfl, hP, hD, hS⟩ hf

theorem md_X6_readTypes_1 : (.fieldLink RX6 21 "ResourceLedger$Reader" "fault" "I" : Cond) ∈ wsX6_readTypes := List.mem_of_getElem? (i := 1) rfl
theorem iwd_X6_readTypes_X6 : ∀ w ∈ wsX60, w ∈ wsX6_readTypes := fun _ h => List.mem_cons_of_mem _ (List.mem_append_left _ (List.mem_append_right _ h))
theorem md_X6_readTypes_2 : (.fieldLink RX6 17 "ResourceLedger$Reader" "p" "LResourceLedger$Program;" : Cond) ∈ wsX6_readTypes := List.mem_of_getElem? (i := 2) rfl
def fn_X6_readTypes_L2 (F : Nat) (sh : Nat → Nat × Nat) (n : Nat) (x0 : Int32) (h0 : Nat) (x1 : Int32) : Nat → St → Int32 → Option (St × Unit)
  | 0, _, _ => none
  | f_3 + 1, z_2, p_1 => if (x0 : Int32) ≤ p_1 then some (z_2, ()) else grd (okO sh n h0 6) (if ((z_2.1 h0 1) : Int32) = 0 then lnk (z_2.2.2 h0 2) (fun k_7 => cal (fn_X6_readOneType F sh n z_2 h0 x1) (fun z_8 r_9 => grd (okO sh n k_7 5) (cal (fn_X5_addType F sh n z_8 k_7 r_9) (fun z_11 _ => fn_X6_readTypes_L2 F sh n x0 h0 x1 f_3 z_11 (p_1 + 1))))) else some (z_2, ()))
theorem fn_X6_readTypes_L2_s {F : Nat} {sh : Nat → Nat × Nat} {n : Nat} {x0 : Int32} {h0 : Nat} {x1 : Int32} {f_3 : Nat} {z_2 : St} {p_1 : Int32} {y : St × Unit} (h : fn_X6_readTypes_L2 F sh n x0 h0 x1 (f_3 + 1) z_2 p_1 = some y) : (if (x0 : Int32) ≤ p_1 then some (z_2, ()) else grd (okO sh n h0 6) (if ((z_2.1 h0 1) : Int32) = 0 then lnk (z_2.2.2 h0 2) (fun k_7 => cal (fn_X6_readOneType F sh n z_2 h0 x1) (fun z_8 r_9 => grd (okO sh n k_7 5) (cal (fn_X5_addType F sh n z_8 k_7 r_9) (fun z_11 _ => fn_X6_readTypes_L2 F sh n x0 h0 x1 f_3 z_11 (p_1 + 1))))) else some (z_2, ()))) = some y := h
def fn_X6_readTypes (F : Nat) (sh : Nat → Nat × Nat) (n : Nat) (z : St) (h0 : Nat) (x0 : Int32) (x1 : Int32) : Option (St × Unit) := fn_X6_readTypes_L2 F sh n x0 h0 x1 F z 0
set_option maxHeartbeats 4000000 in
set_option maxRecDepth 100000 in
theorem de_X6_readTypes (l : Launch) (dC : Nat → ClassId) (dI : Nat → Nat → Nat) (cy : Nat → ClassId) (a : Nat → Nat) (sh : Nat → Nat × Nat) (n sz : Nat) (F : Nat) (z : St) (h0 : Nat) (x0 : Int32) (x1 : Int32) {z8 : St} {r8 : Unit} (hf : fn_X6_readTypes F sh n z h0 x0 x1 = some (z8, r8)) : Met l yX6_readTypes wsX6_readTypes ({ frames := 2, cells := 0, slots := 0, locals := 48 }) (va_Pc [.ref (a h0), .int x0, .int x1] (fun U => U.heap.size = sz ∧ va_P (dC, dI) vwCl (Wd cy a sh n z) U.heap ∧ va_K (dC, dI) vwCl (TYS cy) U ∧ va_D (fun _ => True) (Wd cy a sh n z) ∧ NK U)) (va_Qv (fun u : Unit => True) (fun u t => va_P (dC, dI) vwCl (Wd cy a sh n z8) t.heap ∧ va_K (dC, dI) vwCl (TYS cy) t ∧ va_D (va_A (Wd cy a sh n z) sz) (Wd cy a sh n z8)) (va_A (Wd cy a sh n z) sz)) 0 0 (va_A (Wd cy a sh n z) sz) := by
  refine Met.ofW (cc := cX6_readTypes) (maxL := 4) (ret := none) (by decide) rfl ?_
  intro p e s m args below meth c s₁ B hml hv
  obtain ⟨rfl, hsz, hP, hK, hD0, hN⟩ := hv
  have hx := B.exec
  have hb := B.bytes
  have hr := B.returns
  have hts := atoms_spec (ws := wsX6_readTypes) B.pre
  have hown : s.vm.findClass RX6 = some m.cls := findClass_of_methodNamed B.named
  have hlocks := B.notSynchronized
  subst hsz
  have hD := hD0.self (sz := s.heap.size)
  clear hD0
  generalize hAe : va_A (Wd cy a sh n z) s.heap.size = A at hD ⊢
  have hA : ∀ q : Nat, s.heap.size ≤ q → A q := fun q h => by rw [← hAe]; exact Or.inr h
  clear hAe
  have hS : va_S A s.heap s.heap [] := va_S.rf
  have hl := lv_entry ([.ref (a h0), .int x0, .int x1]) (n := 4) (Nat.le_of_ble_eq_true rfl)
  rw [lg_entry_eq]
  generalize (lg_sl ([.ref (a h0), .int x0, .int x1]) ++ List.replicate (4 - (lg_sl ([.ref (a h0), .int x0, .int x1])).length) Slot.unset).toArray = ls at hl ⊢
  replace hl : lv_has ls 4 [(0, .ref (a h0)), (1, .int x0), (2, .int x1)] := hl
  unfold fn_X6_readTypes at hf
  refine de_start hS hP (fun H locs hS hP => ?_)
  refine lv_iconst (v := 0) hx hb dX6_readTypes_0 (by decide) ?_
  refine lv_istore_n (lv' := [(3, .int 0), (0, .ref (a h0)), (1, .int x0), (2, .int x1)]) hx hb dX6_readTypes_1 rfl hl (by decide) rfl (fun ls hl2 => ?_)
  replace hl := hl2
  clear hl2
  have hl0 : lv_has ls 4 [(3, .int 0), (0, .ref (a h0)), (1, .int x0), (2, .int x1)] := lv_sub hl [0, 1, 2, 3] rfl
  refine de_loop (h := 2) (fun (x : St × Int32) ls H locs => lv_has ls 4 [(3, .int x.2), (0, .ref (a h0)), (1, .int x0), (2, .int x1)] ∧ va_P (dC, dI) vwCl (Wd cy a sh n x.1) H ∧ va_D A (Wd cy a sh n x.1) ∧ va_S A s.heap H locs) (fun f x => fn_X6_readTypes_L2 F sh n x0 h0 x1 f x.1 x.2) (z8, r8) ?_ (fun _ => rfl) F (z, 0) ls H locs ⟨hl0, hP, hD, hS⟩ hf
  intro f_3 x ls H locs ih2 hI hf
  obtain ⟨z_2, p_1⟩ := x
  obtain ⟨hl2, hP2, hD2, hS2⟩ := hI
  replace hl : lv_has ls 4 [(3, .int p_1), (0, .ref (a h0)), (1, .int x0), (2, .int x1)] := hl2
  replace hP := hP2
  replace hD := hD2
  replace hS := hS2
  clear hl2 hP2 hD2 hS2 hl0
  replace hf := fn_X6_readTypes_L2_s hf
  refine lv_iload_n hx hb dX6_readTypes_2 rfl (lv_at hl 0 rfl) ?_
  refine lv_iload_n hx hb dX6_readTypes_3 rfl (lv_at hl 2 rfl) ?_
  refine lv_icmp_ge (tgt := 32) hx hb dX6_readTypes_4 (by decide) (fun c_4 => ?_) (fun c_4 => ?_)
  · skip
    rw [if_pos c_4] at hf
    obtain ⟨h8, h9⟩ := ret_some hf
    rw [h8]
    exact W.vret hx hb hr (fun t ht hW => ⟨⟨(), rfl, trivial, by rw [ht]; exact hP, va_K.moved hW.alike hK, hD⟩, hS.F ht⟩) hS.2.2 dX6_readTypes_32
  · skip
    rw [if_neg c_4] at hf
    refine lv_aload_n hx hb dX6_readTypes_7 rfl (lv_at hl 1 rfl) ?_
    obtain ⟨g_5, hf⟩ := grd_some hf
    obtain ⟨kg_5, sg_5⟩ := okO_at g_5
    refine va_get (D := (dC, dI)) (ci := 6) (v := .int (z_2.1 h0 1)) (C := RX6) (T := TX6) (N := 9) hx hb hts iwd_X6_readTypes_X6 hown hK hP h0 (Wd_ob kg_5 sg_5 (by decide)) rfl 1 (by decide) (hts _ md_X6_readTypes_1) (fun _ h9 => h9) (fl_at (t := 0) rfl) dX6_readTypes_8 ?_
    refine lv_if_ne (tgt := 32) hx hb dX6_readTypes_11 (by decide) (fun c_6 => ?_) (fun c_6 => ?_)
    · skip
      rw [if_neg c_6] at hf
      obtain ⟨h8, h9⟩ := ret_some hf
      rw [h8]
      exact W.vret hx hb hr (fun t ht hW => ⟨⟨(), rfl, trivial, by rw [ht]; exact hP, va_K.moved hW.alike hK, hD⟩, hS.F ht⟩) hS.2.2 dX6_readTypes_32
    · skip
      rw [if_pos c_6] at hf
      refine lv_aload_n hx hb dX6_readTypes_14 rfl (lv_at hl 1 rfl) ?_
      obtain ⟨k_7, ek_7, hf⟩ := lnk_some hf
      refine va_get (D := (dC, dI)) (ci := 6) (v := .ref (a k_7)) (C := RX6) (T := TX6) (N := 9) hx hb hts iwd_X6_readTypes_X6 hown hK hP h0 (Wd_ob kg_5 sg_5 (by decide)) rfl 2 (by decide) (hts _ md_X6_readTypes_2) (fun _ h9 => h9) (fl_q rfl ek_7) dX6_readTypes_15 ?_
      refine lv_aload_n hx hb dX6_readTypes_18 rfl (lv_at hl 1 rfl) ?_
      refine lv_iload_n hx hb dX6_readTypes_19 rfl (lv_at hl 3 rfl) ?_
      obtain ⟨z_8, r_9, hfc, hf⟩ := cal_some hf
      have hFc := de_free hD hS hA
      refine va_calll (va_runV (As := [.int x1]) (rest := [.ref (a k_7)]) ⟨hx, hb, hml, hown, hts⟩ (de_X6_readOneType l dC dI cy a sh n H.size F z_2 h0 x1 hfc) (cwV 1 hts gX6_readTypes_X6_readOneType rfl rfl rfl (by decide +kernel) ⟨Nat.le_of_ble_eq_true rfl, Nat.le_of_ble_eq_true rfl⟩) ⟨fun a U g mk q => by obtain ⟨q0, q1, qP, qK, qD, qN⟩ := q; exact ⟨q0, q1, qP, va_K.moved (u := U) (U := U.calling g mk a) (Vm.Alike.refl U.vm) qK, qD, qN.same rfl⟩, va_recv hK hP (ci := 6) (q0 := h0) rfl (Wd_ob kg_5 sg_5 (by decide)), fun U hU hW => ⟨rfl, by rw [hU], by rw [hU]; exact hP, va_K.moved hW.alike hK, hD.weaken (fun _ _ _ _ => trivial), hN.warm hW⟩⟩ rfl rfl hl.1 rfl (lv_room (Nat.le_of_ble_eq_true rfl)) dX6_readTypes_20 ⟨Nat.le_of_ble_eq_true rfl, Nat.le_of_ble_eq_true rfl⟩) hS (fun q _ h => hFc q h) hFc (fun rr u t H_10 locs ht hvm hw hB hz1 hk1 hS2 => ?_)
      rw [hw]
      clear hw
      obtain ⟨hP1, -, hD1⟩ := hB
      rw [ht] at hP1
      replace hD := hD1.weaken (fun _ _ _ h => hFc _ h)
      replace hP := hP1
      replace hS := hS2
      clear hP1 hD1 hS2 hFc hfc hz1 hk1 hvm ht
      obtain ⟨g_12, hf⟩ := grd_some hf
      obtain ⟨kg_12, sg_12⟩ := okO_at g_12
      obtain ⟨z_11, _u, hfc, hf⟩ := cal_some hf
      have hFc := de_free hD hS hA
      refine va_callv (va_runV (As := [.long r_9]) (rest := []) ⟨hx, hb, hml, hown, hts⟩ (de_X5_addType l dC dI cy a sh n H_10.size F z_8 k_7 r_9 hfc) (cwV 1 hts gX6_readTypes_X5_addType rfl rfl rfl (by decide +kernel) ⟨Nat.le_of_ble_eq_true rfl, Nat.le_of_ble_eq_true rfl⟩) ⟨fun a U g mk q => by obtain ⟨q0, q1, qP, qK, qD, qN⟩ := q; exact ⟨q0, q1, qP, va_K.moved (u := U) (U := U.calling g mk a) (Vm.Alike.refl U.vm) qK, qD, qN.same rfl⟩, va_recv hK hP (ci := 5) (q0 := k_7) rfl (Wd_ob kg_12 sg_12 (by decide)), fun U hU hW => ⟨rfl, by rw [hU], by rw [hU]; exact hP, va_K.moved hW.alike hK, hD.weaken (fun _ _ _ _ => trivial), hN.warm hW⟩⟩ rfl rfl hl.1 rfl (lv_room (Nat.le_of_ble_eq_true rfl)) dX6_readTypes_23 ⟨Nat.le_of_ble_eq_true rfl, Nat.le_of_ble_eq_true rfl⟩) hS (fun q _ h => hFc q h) hFc (fun u t H_13 locs ht hvm hw hB hz1 hk1 hS2 => ?_)
      obtain ⟨hP1, -, hD1⟩ := hB
      rw [ht] at hP1
      replace hD := hD1.weaken (fun _ _ _ h => hFc _ h)
      replace hP := hP1
      replace hS := hS2
      clear hP1 hD1 hS2 hFc hfc hz1 hk1 hvm ht
      refine lv_iinc (v := (p_1 + 1)) (lv' := [(3, .int (p_1 + 1)), (0, .ref (a h0)), (1, .int x0), (2, .int x1)]) hx hb dX6_readTypes_26 hl (k := 0) rfl rfl (by decide) rfl (fun ls hl2 => ?_)
      replace hl := hl2
      clear hl2
      refine lv_goto (tgt := 2) hx hb dX6_readTypes_29 (by decide) ?_
      exact ih2 (z_11, (p_1 + 1)) ls H_13 locs ⟨lv_sub hl [0, 1, 2, 3] rfl, hP, hD, hS⟩ hf

def fn_X6_readList (F : Nat) (sh : Nat → Nat × Nat) (n : Nat) (z : St) (h0 : Nat) (x0 : Int32) : Option (St × Int32) := grd (okO sh n h0 6) (cal (fn_X6_readNumber F sh n z h0 0 x0) (fun z_1 r_2 => cal (fn_X6_readTypes F sh n z_1 h0 r_2 1) (fun z_5 _ => some (z_5, r_2))))
set_option maxHeartbeats 4000000 in
set_option maxRecDepth 100000 in
theorem de_X6_readList (l : Launch) (dC : Nat → ClassId) (dI : Nat → Nat → Nat) (cy : Nat → ClassId) (a : Nat → Nat) (sh : Nat → Nat × Nat) (n sz : Nat) (F : Nat) (z : St) (h0 : Nat) (x0 : Int32) {z8 : St} {r8 : Int32} (hf : fn_X6_readList F sh n z h0 x0 = some (z8, r8)) : Met l yX6_readList wsX6_readList ({ frames := 3, cells := 0, slots := 0, locals := 71 }) (va_Pc [.ref (a h0), .int x0] (fun U => U.heap.size = sz ∧ va_P (dC, dI) vwCl (Wd cy a sh n z) U.heap ∧ va_K (dC, dI) vwCl (TYS cy) U ∧ va_D (fun _ => True) (Wd cy a sh n z) ∧ NK U)) (va_Qi (fun (r9 : Int32) (u : Unit) => r9 = r8) (fun u t => va_P (dC, dI) vwCl (Wd cy a sh n z8) t.heap ∧ va_K (dC, dI) vwCl (TYS cy) t ∧ va_D (va_A (Wd cy a sh n z) sz) (Wd cy a sh n z8)) (va_A (Wd cy a sh n z) sz)) 0 0 (va_A (Wd cy a sh n z) sz) := by
  refine Met.ofW (cc := cX6_readList) (maxL := 3) (ret := (some .int)) (by decide) rfl ?_
  intro p e s m args below meth c s₁ B hml hv
  obtain ⟨rfl, hsz, hP, hK, hD0, hN⟩ := hv
  have hx := B.exec
  have hb := B.bytes
  have hr := B.returns
  have hts := atoms_spec (ws := wsX6_readList) B.pre
  have hown : s.vm.findClass RX6 = some m.cls := findClass_of_methodNamed B.named
  have hlocks := B.notSynchronized
  subst hsz
  have hD := hD0.self (sz := s.heap.size)
  clear hD0
  generalize hAe : va_A (Wd cy a sh n z) s.heap.size = A at hD ⊢
  have hA : ∀ q : Nat, s.heap.size ≤ q → A q := fun q h => by rw [← hAe]; exact Or.inr h
  clear hAe
  have hS : va_S A s.heap s.heap [] := va_S.rf
  have hl := lv_entry ([.ref (a h0), .int x0]) (n := 3) (Nat.le_of_ble_eq_true rfl)
  rw [lg_entry_eq]
  generalize (lg_sl ([.ref (a h0), .int x0]) ++ List.replicate (3 - (lg_sl ([.ref (a h0), .int x0])).length) Slot.unset).toArray = ls at hl ⊢
  replace hl : lv_has ls 3 [(0, .ref (a h0)), (1, .int x0)] := hl
  unfold fn_X6_readList at hf
  refine de_start hS hP (fun H locs hS hP => ?_)
  refine lv_aload_n hx hb dX6_readList_0 rfl (lv_at hl 0 rfl) ?_
  refine lv_iconst (v := 0) hx hb dX6_readList_1 (by decide) ?_
  refine lv_iload_n hx hb dX6_readList_2 rfl (lv_at hl 1 rfl) ?_
  obtain ⟨g_3, hf⟩ := grd_some hf
  obtain ⟨kg_3, sg_3⟩ := okO_at g_3
  obtain ⟨z_1, r_2, hfc, hf⟩ := cal_some hf
  have hFc := de_free hD hS hA
  refine va_calli (va_runV (As := [.int 0, .int x0]) (rest := []) ⟨hx, hb, hml, hown, hts⟩ (de_X6_readNumber l dC dI cy a sh n H.size F z h0 0 x0 hfc) (cwV 2 hts gX6_readList_X6_readNumber rfl rfl rfl (by decide +kernel) ⟨Nat.le_of_ble_eq_true rfl, Nat.le_of_ble_eq_true rfl⟩) ⟨fun a U g mk q => by obtain ⟨q0, q1, qP, qK, qD, qN⟩ := q; exact ⟨q0, q1, qP, va_K.moved (u := U) (U := U.calling g mk a) (Vm.Alike.refl U.vm) qK, qD, qN.same rfl⟩, va_recv hK hP (ci := 6) (q0 := h0) rfl (Wd_ob kg_3 sg_3 (by decide)), fun U hU hW => ⟨rfl, by rw [hU], by rw [hU]; exact hP, va_K.moved hW.alike hK, hD.weaken (fun _ _ _ _ => trivial), hN.warm hW⟩⟩ rfl rfl hl.1 rfl (lv_room (Nat.le_of_ble_eq_true rfl)) dX6_readList_3 ⟨Nat.le_of_ble_eq_true rfl, Nat.le_of_ble_eq_true rfl⟩) hS (fun q _ h => hFc q h) hFc (fun rr u t H_4 locs ht hvm hw hB hz1 hk1 hS2 => ?_)
  rw [hw]
  clear hw
  obtain ⟨hP1, -, hD1⟩ := hB
  rw [ht] at hP1
  replace hD := hD1.weaken (fun _ _ _ h => hFc _ h)
  replace hP := hP1
  replace hS := hS2
  clear hP1 hD1 hS2 hFc hfc hz1 hk1 hvm ht
  refine lv_istore_n (lv' := [(2, .int r_2), (0, .ref (a h0)), (1, .int x0)]) hx hb dX6_readList_6 rfl hl (by decide) rfl (fun ls hl2 => ?_)
  replace hl := hl2
  clear hl2
  refine lv_aload_n hx hb dX6_readList_7 rfl (lv_at hl 1 rfl) ?_
  refine lv_iload_n hx hb dX6_readList_8 rfl (lv_at hl 0 rfl) ?_
  refine lv_iconst (v := 1) hx hb dX6_readList_9 (by decide) ?_
  obtain ⟨z_5, _u, hfc, hf⟩ := cal_some hf
  have hFc := de_free hD hS hA
  refine va_callv (va_runV (As := [.int r_2, .int 1]) (rest := []) ⟨hx, hb, hml, hown, hts⟩ (de_X6_readTypes l dC dI cy a sh n H_4.size F z_1 h0 r_2 1 hfc) (cwV 2 hts gX6_readList_X6_readTypes rfl rfl rfl (by decide +kernel) ⟨Nat.le_of_ble_eq_true rfl, Nat.le_of_ble_eq_true rfl⟩) ⟨fun a U g mk q => by obtain ⟨q0, q1, qP, qK, qD, qN⟩ := q; exact ⟨q0, q1, qP, va_K.moved (u := U) (U := U.calling g mk a) (Vm.Alike.refl U.vm) qK, qD, qN.same rfl⟩, va_recv hK hP (ci := 6) (q0 := h0) rfl (Wd_ob kg_3 sg_3 (by decide)), fun U hU hW => ⟨rfl, by rw [hU], by rw [hU]; exact hP, va_K.moved hW.alike hK, hD.weaken (fun _ _ _ _ => trivial), hN.warm hW⟩⟩ rfl rfl hl.1 rfl (lv_room (Nat.le_of_ble_eq_true rfl)) dX6_readList_10 ⟨Nat.le_of_ble_eq_true rfl, Nat.le_of_ble_eq_true rfl⟩) hS (fun q _ h => hFc q h) hFc (fun u t H_6 locs ht hvm hw hB hz1 hk1 hS2 => ?_)
  obtain ⟨hP1, -, hD1⟩ := hB
  rw [ht] at hP1
  replace hD := hD1.weaken (fun _ _ _ h => hFc _ h)
  replace hP := hP1
  replace hS := hS2
  clear hP1 hD1 hS2 hFc hfc hz1 hk1 hvm ht
  refine lv_iload_n hx hb dX6_readList_13 rfl (lv_at hl 0 rfl) ?_
  obtain ⟨h8, h9⟩ := ret_some hf
  rw [h8, h9]
  exact W.iret (v := r_2) hx hb hr (fun t ht hW => ⟨⟨r_2, (), rfl, rfl, by rw [ht]; exact hP, va_K.moved hW.alike hK, hD⟩, hS.F ht⟩) hS.2.2 dX6_readList_14

theorem md_X6_readInstruction_1 : (.fieldLink RX6 17 "ResourceLedger$Reader" "p" "LResourceLedger$Program;" : Cond) ∈ wsX6_readInstruction := List.mem_of_getElem? (i := 1) rfl
theorem iwd_X6_readInstruction_X6 : ∀ w ∈ wsX60, w ∈ wsX6_readInstruction := fun _ h => List.mem_cons_of_mem _ (List.mem_append_left _ (List.mem_append_right _ h))
theorem md_X6_readInstruction_2 : (.fieldLink RX6 32 "ResourceLedger$Reader" "at" "I" : Cond) ∈ wsX6_readInstruction := List.mem_of_getElem? (i := 2) rfl
theorem md_X6_readInstruction_8 : (.fieldLink RX6 63 "ResourceLedger$Program" "elementCount" "I" : Cond) ∈ wsX6_readInstruction := List.mem_of_getElem? (i := 8) rfl
theorem iwd_X6_readInstruction_X5 : ∀ w ∈ wsX50, w ∈ wsX6_readInstruction := fun _ h => List.mem_cons_of_mem _ (List.mem_append_right _ h)
theorem md_X6_readInstruction_6 : (.fieldLink RX6 120 "ResourceLedger$Program" "ownFunctions" "I" : Cond) ∈ wsX6_readInstruction := List.mem_of_getElem? (i := 6) rfl
theorem md_X6_readInstruction_7 : (.fieldLink RX6 110 "ResourceLedger$Program" "foreignFunctions" "I" : Cond) ∈ wsX6_readInstruction := List.mem_of_getElem? (i := 7) rfl
theorem md_X6_readInstruction_5 : (.fieldLink RX6 123 "ResourceLedger$Reader" "locals" "I" : Cond) ∈ wsX6_readInstruction := List.mem_of_getElem? (i := 5) rfl
theorem md_X6_readInstruction_3 : (.fieldLink RX6 126 "ResourceLedger$Reader" "instructions" "I" : Cond) ∈ wsX6_readInstruction := List.mem_of_getElem? (i := 3) rfl
theorem md_X6_readInstruction_4 : (.fieldLink RX6 28 "ResourceLedger$Reader" "judging" "Z" : Cond) ∈ wsX6_readInstruction := List.mem_of_getElem? (i := 4) rfl
def fn_X6_readInstruction_B173 (F : Nat) (sh : Nat → Nat × Nat) (n : Nat) (h0 : Nat) (z_14 : St) : Option (St × Unit) := cal (fn_X6_readOwnStructure F sh n z_14 h0) (fun z_15 r_16 => lnk (z_15.2.2 h0 2) (fun k_18 => grd (okO sh n k_18 5) (cal (fn_X5_fieldCount F sh n z_15 k_18 r_16) (fun z_19 r_20 => cal (fn_X6_readJudged F sh n z_19 h0 r_20 9) (fun z_23 r_24 => some (z_23, ()))))))
theorem fn_X6_readInstruction_B173_s {F : Nat} {sh : Nat → Nat × Nat} {n : Nat} {h0 : Nat} {z_14 : St} {y : St × Unit} (h : fn_X6_readInstruction_B173 F sh n h0 z_14 = some y) : (cal (fn_X6_readOwnStructure F sh n z_14 h0) (fun z_15 r_16 => lnk (z_15.2.2 h0 2) (fun k_18 => grd (okO sh n k_18 5) (cal (fn_X5_fieldCount F sh n z_15 k_18 r_16) (fun z_19 r_20 => cal (fn_X6_readJudged F sh n z_19 h0 r_20 9) (fun z_23 r_24 => some (z_23, ()))))))) = some y := h
def fn_X6_readInstruction_B228 (F : Nat) (sh : Nat → Nat × Nat) (n : Nat) (r_8 : Int32) (h0 : Nat) (z_36 : St) : Option (St × Unit) := if (r_8 : Int32) = 23 then lnk (z_36.2.2 h0 2) (fun k_49 => grd (okO sh n k_49 5) (lnk (z_36.2.2 h0 2) (fun k_51 => grd (okO sh n k_51 5) (cal (fn_X6_readJudged F sh n z_36 h0 ((z_36.1 k_49 11) + (z_36.1 k_51 12)) 11) (fun z_53 r_54 => some (z_53, ())))))) else if (r_8 : Int32) < 52 then some (z_36, ()) else if (58 : Int32) < r_8 then some (z_36, ()) else lnk (z_36.2.2 h0 2) (fun k_40 => grd (okO sh n k_40 5) (cal (fn_X6_readJudged F sh n z_36 h0 (z_36.1 k_40 14) 12) (fun z_42 r_43 => if (r_8 : Int32) = 52 then cal (fn_X6_readNumber F sh n z_42 h0 0 64) (fun z_46 r_47 => some (z_46, ())) else some (z_42, ()))))
theorem fn_X6_readInstruction_B228_s {F : Nat} {sh : Nat → Nat × Nat} {n : Nat} {r_8 : Int32} {h0 : Nat} {z_36 : St} {y : St × Unit} (h : fn_X6_readInstruction_B228 F sh n r_8 h0 z_36 = some y) : (if (r_8 : Int32) = 23 then lnk (z_36.2.2 h0 2) (fun k_49 => grd (okO sh n k_49 5) (lnk (z_36.2.2 h0 2) (fun k_51 => grd (okO sh n k_51 5) (cal (fn_X6_readJudged F sh n z_36 h0 ((z_36.1 k_49 11) + (z_36.1 k_51 12)) 11) (fun z_53 r_54 => some (z_53, ())))))) else if (r_8 : Int32) < 52 then some (z_36, ()) else if (58 : Int32) < r_8 then some (z_36, ()) else lnk (z_36.2.2 h0 2) (fun k_40 => grd (okO sh n k_40 5) (cal (fn_X6_readJudged F sh n z_36 h0 (z_36.1 k_40 14) 12) (fun z_42 r_43 => if (r_8 : Int32) = 52 then cal (fn_X6_readNumber F sh n z_42 h0 0 64) (fun z_46 r_47 => some (z_46, ())) else some (z_42, ()))))) = some y := h
def fn_X6_readInstruction_B161 (F : Nat) (sh : Nat → Nat × Nat) (n : Nat) (r_8 : Int32) (h0 : Nat) (z_13 : St) : Option (St × Unit) := if (r_8 : Int32) = 16 then fn_X6_readInstruction_B173 F sh n h0 z_13  else if (r_8 : Int32) = 17 then fn_X6_readInstruction_B173 F sh n h0 z_13  else if (r_8 : Int32) = 21 then cal (fn_X6_readOwnStructure F sh n z_13 h0) (fun z_29 r_30 => some (z_29, ())) else if (r_8 : Int32) = 22 then cal (fn_X6_readOwnStructure F sh n z_13 h0) (fun z_33 r_34 => some (z_33, ())) else if (r_8 : Int32) < 47 then fn_X6_readInstruction_B228 F sh n r_8 h0 z_13  else if (51 : Int32) < r_8 then fn_X6_readInstruction_B228 F sh n r_8 h0 z_13  else cal (fn_X6_readOwnStructure F sh n z_13 h0) (fun z_58 r_59 => some (z_58, ()))
theorem fn_X6_readInstruction_B161_s {F : Nat} {sh : Nat → Nat × Nat} {n : Nat} {r_8 : Int32} {h0 : Nat} {z_13 : St} {y : St × Unit} (h : fn_X6_readInstruction_B161 F sh n r_8 h0 z_13 = some y) : (if (r_8 : Int32) = 16 then fn_X6_readInstruction_B173 F sh n h0 z_13  else if (r_8 : Int32) = 17 then fn_X6_readInstruction_B173 F sh n h0 z_13  else if (r_8 : Int32) = 21 then cal (fn_X6_readOwnStructure F sh n z_13 h0) (fun z_29 r_30 => some (z_29, ())) else if (r_8 : Int32) = 22 then cal (fn_X6_readOwnStructure F sh n z_13 h0) (fun z_33 r_34 => some (z_33, ())) else if (r_8 : Int32) < 47 then fn_X6_readInstruction_B228 F sh n r_8 h0 z_13  else if (51 : Int32) < r_8 then fn_X6_readInstruction_B228 F sh n r_8 h0 z_13  else cal (fn_X6_readOwnStructure F sh n z_13 h0) (fun z_58 r_59 => some (z_58, ()))) = some y := h
def fn_X6_readInstruction_B135 (F : Nat) (sh : Nat → Nat × Nat) (n : Nat) (r_8 : Int32) (h0 : Nat) (z_12 : St) : Option (St × Unit) := if (r_8 : Int32) < 11 then fn_X6_readInstruction_B161 F sh n r_8 h0 z_12  else if (15 : Int32) < r_8 then fn_X6_readInstruction_B161 F sh n r_8 h0 z_12  else cal (fn_X6_readJudged F sh n z_12 h0 (z_12.1 h0 6) 10) (fun z_63 r_64 => some (z_63, ()))
theorem fn_X6_readInstruction_B135_s {F : Nat} {sh : Nat → Nat × Nat} {n : Nat} {r_8 : Int32} {h0 : Nat} {z_12 : St} {y : St × Unit} (h : fn_X6_readInstruction_B135 F sh n r_8 h0 z_12 = some y) : (if (r_8 : Int32) < 11 then fn_X6_readInstruction_B161 F sh n r_8 h0 z_12  else if (15 : Int32) < r_8 then fn_X6_readInstruction_B161 F sh n r_8 h0 z_12  else cal (fn_X6_readJudged F sh n z_12 h0 (z_12.1 h0 6) 10) (fun z_63 r_64 => some (z_63, ()))) = some y := h
def fn_X6_readInstruction_B79 (F : Nat) (sh : Nat → Nat × Nat) (n : Nat) (r_8 : Int32) (h0 : Nat) (z_11 : St) : Option (St × Unit) := if (r_8 : Int32) < 5 then fn_X6_readInstruction_B135 F sh n r_8 h0 z_11  else if (10 : Int32) < r_8 then fn_X6_readInstruction_B135 F sh n r_8 h0 z_11  else if (r_8 : Int32) = 5 then cal (fn_X6_pass F sh n z_11 h0 1) (fun z_80 _ => some (z_80, ())) else if (r_8 : Int32) = 7 then cal (fn_X6_pass F sh n z_11 h0 16) (fun z_78 _ => some (z_78, ())) else if (r_8 : Int32) = 6 then cal (fn_X6_pass F sh n z_11 h0 8) (fun z_71 _ => some (z_71, ())) else if (r_8 : Int32) = 10 then cal (fn_X6_pass F sh n z_11 h0 8) (fun z_76 _ => some (z_76, ())) else cal (fn_X6_pass F sh n z_11 h0 0) (fun z_74 _ => some (z_74, ()))
theorem fn_X6_readInstruction_B79_s {F : Nat} {sh : Nat → Nat × Nat} {n : Nat} {r_8 : Int32} {h0 : Nat} {z_11 : St} {y : St × Unit} (h : fn_X6_readInstruction_B79 F sh n r_8 h0 z_11 = some y) : (if (r_8 : Int32) < 5 then fn_X6_readInstruction_B135 F sh n r_8 h0 z_11  else if (10 : Int32) < r_8 then fn_X6_readInstruction_B135 F sh n r_8 h0 z_11  else if (r_8 : Int32) = 5 then cal (fn_X6_pass F sh n z_11 h0 1) (fun z_80 _ => some (z_80, ())) else if (r_8 : Int32) = 7 then cal (fn_X6_pass F sh n z_11 h0 16) (fun z_78 _ => some (z_78, ())) else if (r_8 : Int32) = 6 then cal (fn_X6_pass F sh n z_11 h0 8) (fun z_71 _ => some (z_71, ())) else if (r_8 : Int32) = 10 then cal (fn_X6_pass F sh n z_11 h0 8) (fun z_76 _ => some (z_76, ())) else cal (fn_X6_pass F sh n z_11 h0 0) (fun z_74 _ => some (z_74, ()))) = some y := h
def fn_X6_readInstruction (F : Nat) (sh : Nat → Nat × Nat) (n : Nat) (z : St) (h0 : Nat) : Option (St × Unit) := grd (okO sh n h0 6) (lnk (z.2.2 h0 2) (fun k_2 => grd (okO sh n k_2 5) (cal (fn_X5_addStart F sh n z k_2 (z.1 h0 3)) (fun z_3 _ => lt_ (z_3.1 h0 3) (fun v_6 => cal (fn_X6_readByte F sh n z_3 h0) (fun z_7 r_8 => if (r_8 : Int32) ≤ 59 then if (r_8 : Int32) < 2 then fn_X6_readInstruction_B79 F sh n r_8 h0 z_7  else if (4 : Int32) < r_8 then fn_X6_readInstruction_B79 F sh n r_8 h0 z_7  else lt_ (z_7.1 h0 3) (fun v_84 => cal (fn_X6_readShort F sh n z_7 h0) (fun z_85 r_86 => if (r_86 : Int32) < (z_85.1 h0 7) then some (z_85, ()) else if ((z_85.1 h0 4) : Int32) = 0 then some (z_85, ()) else cal (fn_X6_fail F sh n z_85 h0 13 v_84) (fun z_90 _ => some (z_90, ())))) else cal (fn_X6_fail F sh n z_7 h0 5 v_6) (fun z_92 _ => some (z_92, ()))))))))
set_option maxHeartbeats 4000000 in
set_option maxRecDepth 100000 in
theorem de_X6_readInstruction (l : Launch) (dC : Nat → ClassId) (dI : Nat → Nat → Nat) (cy : Nat → ClassId) (a : Nat → Nat) (sh : Nat → Nat × Nat) (n sz : Nat) (F : Nat) (z : St) (h0 : Nat) {z8 : St} {r8 : Unit} (hf : fn_X6_readInstruction F sh n z h0 = some (z8, r8)) : Met l yX6_readInstruction wsX6_readInstruction ({ frames := 3, cells := 0, slots := 0, locals := 68 }) (va_Pc [.ref (a h0)] (fun U => U.heap.size = sz ∧ va_P (dC, dI) vwCl (Wd cy a sh n z) U.heap ∧ va_K (dC, dI) vwCl (TYS cy) U ∧ va_D (fun _ => True) (Wd cy a sh n z) ∧ NK U)) (va_Qv (fun u : Unit => True) (fun u t => va_P (dC, dI) vwCl (Wd cy a sh n z8) t.heap ∧ va_K (dC, dI) vwCl (TYS cy) t ∧ va_D (va_A (Wd cy a sh n z) sz) (Wd cy a sh n z8)) (va_A (Wd cy a sh n z) sz)) 0 0 (va_A (Wd cy a sh n z) sz) := by
  refine Met.ofW (cc := cX6_readInstruction) (maxL := 4) (ret := none) (by decide) rfl ?_
  intro p e s m args below meth c s₁ B hml hv
  obtain ⟨rfl, hsz, hP, hK, hD0, hN⟩ := hv
  have hx := B.exec
  have hb := B.bytes
  have hr := B.returns
  have hts := atoms_spec (ws := wsX6_readInstruction) B.pre
  have hown : s.vm.findClass RX6 = some m.cls := findClass_of_methodNamed B.named
  have hlocks := B.notSynchronized
  subst hsz
  have hD := hD0.self (sz := s.heap.size)
  clear hD0
  generalize hAe : va_A (Wd cy a sh n z) s.heap.size = A at hD ⊢
  have hA : ∀ q : Nat, s.heap.size ≤ q → A q := fun q h => by rw [← hAe]; exact Or.inr h
  clear hAe
  have hS : va_S A s.heap s.heap [] := va_S.rf
  have hl := lv_entry ([.ref (a h0)]) (n := 4) (Nat.le_of_ble_eq_true rfl)
  rw [lg_entry_eq]
  generalize (lg_sl ([.ref (a h0)]) ++ List.replicate (4 - (lg_sl ([.ref (a h0)])).length) Slot.unset).toArray = ls at hl ⊢
  replace hl : lv_has ls 4 [(0, .ref (a h0))] := hl
  unfold fn_X6_readInstruction at hf
  refine de_start hS hP (fun H locs hS hP => ?_)
  refine lv_aload_n hx hb dX6_readInstruction_0 rfl (lv_at hl 0 rfl) ?_
  obtain ⟨g_1, hf⟩ := grd_some hf
  obtain ⟨kg_1, sg_1⟩ := okO_at g_1
  obtain ⟨k_2, ek_2, hf⟩ := lnk_some hf
  refine va_get (D := (dC, dI)) (ci := 6) (v := .ref (a k_2)) (C := RX6) (T := TX6) (N := 9) hx hb hts iwd_X6_readInstruction_X6 hown hK hP h0 (Wd_ob kg_1 sg_1 (by decide)) rfl 2 (by decide) (hts _ md_X6_readInstruction_1) (fun _ h9 => h9) (fl_q rfl ek_2) dX6_readInstruction_1 ?_
  refine lv_aload_n hx hb dX6_readInstruction_4 rfl (lv_at hl 0 rfl) ?_
  refine va_get (D := (dC, dI)) (ci := 6) (v := .int (z.1 h0 3)) (C := RX6) (T := TX6) (N := 9) hx hb hts iwd_X6_readInstruction_X6 hown hK hP h0 (Wd_ob kg_1 sg_1 (by decide)) rfl 3 (by decide) (hts _ md_X6_readInstruction_2) (fun _ h9 => h9) (fl_at (t := 0) rfl) dX6_readInstruction_5 ?_
  obtain ⟨g_4, hf⟩ := grd_some hf
  obtain ⟨kg_4, sg_4⟩ := okO_at g_4
  obtain ⟨z_3, _u, hfc, hf⟩ := cal_some hf
  have hFc := de_free hD hS hA
  refine va_callv (va_runV (As := [.int (z.1 h0 3)]) (rest := []) ⟨hx, hb, hml, hown, hts⟩ (de_X5_addStart l dC dI cy a sh n H.size F z k_2 (z.1 h0 3) hfc) (cwV 1 hts gX6_readInstruction_X5_addStart rfl rfl rfl (by decide +kernel) ⟨Nat.le_of_ble_eq_true rfl, Nat.le_of_ble_eq_true rfl⟩) ⟨fun a U g mk q => by obtain ⟨q0, q1, qP, qK, qD, qN⟩ := q; exact ⟨q0, q1, qP, va_K.moved (u := U) (U := U.calling g mk a) (Vm.Alike.refl U.vm) qK, qD, qN.same rfl⟩, va_recv hK hP (ci := 5) (q0 := k_2) rfl (Wd_ob kg_4 sg_4 (by decide)), fun U hU hW => ⟨rfl, by rw [hU], by rw [hU]; exact hP, va_K.moved hW.alike hK, hD.weaken (fun _ _ _ _ => trivial), hN.warm hW⟩⟩ rfl rfl hl.1 rfl (lv_room (Nat.le_of_ble_eq_true rfl)) dX6_readInstruction_8 ⟨Nat.le_of_ble_eq_true rfl, Nat.le_of_ble_eq_true rfl⟩) hS (fun q _ h => hFc q h) hFc (fun u t H_5 locs ht hvm hw hB hz1 hk1 hS2 => ?_)
  obtain ⟨hP1, -, hD1⟩ := hB
  rw [ht] at hP1
  replace hD := hD1.weaken (fun _ _ _ h => hFc _ h)
  replace hP := hP1
  replace hS := hS2
  clear hP1 hD1 hS2 hFc hfc hz1 hk1 hvm ht
  refine lv_aload_n hx hb dX6_readInstruction_11 rfl (lv_at hl 0 rfl) ?_
  refine va_get (D := (dC, dI)) (ci := 6) (v := .int (z_3.1 h0 3)) (C := RX6) (T := TX6) (N := 9) hx hb hts iwd_X6_readInstruction_X6 hown hK hP h0 (Wd_ob kg_1 sg_1 (by decide)) rfl 3 (by decide) (hts _ md_X6_readInstruction_2) (fun _ h9 => h9) (fl_at (t := 0) rfl) dX6_readInstruction_12 ?_
  refine lv_topi (fun v_6 ev_6 => ?_)
  replace hf := lt_at ev_6 hf
  clear ev_6
  refine lv_istore_n (lv' := [(1, .int v_6), (0, .ref (a h0))]) hx hb dX6_readInstruction_15 rfl hl (by decide) rfl (fun ls hl2 => ?_)
  replace hl := hl2
  clear hl2
  refine lv_aload_n hx hb dX6_readInstruction_16 rfl (lv_at hl 1 rfl) ?_
  obtain ⟨z_7, r_8, hfc, hf⟩ := cal_some hf
  have hFc := de_free hD hS hA
  refine va_calli (va_runV (As := []) (rest := []) ⟨hx, hb, hml, hown, hts⟩ (de_X6_readByte l dC dI cy a sh n H_5.size F z_3 h0 hfc) (cwV 0 hts gX6_readInstruction_X6_readByte rfl rfl rfl (by decide +kernel) ⟨Nat.le_of_ble_eq_true rfl, Nat.le_of_ble_eq_true rfl⟩) ⟨fun a U g mk q => by obtain ⟨q0, q1, qP, qK, qD, qN⟩ := q; exact ⟨q0, q1, qP, va_K.moved (u := U) (U := U.calling g mk a) (Vm.Alike.refl U.vm) qK, qD, qN.same rfl⟩, va_recv hK hP (ci := 6) (q0 := h0) rfl (Wd_ob kg_1 sg_1 (by decide)), fun U hU hW => ⟨rfl, by rw [hU], by rw [hU]; exact hP, va_K.moved hW.alike hK, hD.weaken (fun _ _ _ _ => trivial), hN.warm hW⟩⟩ rfl rfl hl.1 rfl (lv_room (Nat.le_of_ble_eq_true rfl)) dX6_readInstruction_17 ⟨Nat.le_of_ble_eq_true rfl, Nat.le_of_ble_eq_true rfl⟩) hS (fun q _ h => hFc q h) hFc (fun rr u t H_9 locs ht hvm hw hB hz1 hk1 hS2 => ?_)
  rw [hw]
  clear hw
  obtain ⟨hP1, -, hD1⟩ := hB
  rw [ht] at hP1
  replace hD := hD1.weaken (fun _ _ _ h => hFc _ h)
  replace hP := hP1
  replace hS := hS2
  clear hP1 hD1 hS2 hFc hfc hz1 hk1 hvm ht
  refine lv_istore_n (lv' := [(2, .int r_8), (1, .int v_6), (0, .ref (a h0))]) hx hb dX6_readInstruction_20 rfl hl (by decide) rfl (fun ls hl2 => ?_)
  replace hl := hl2
  clear hl2
  refine lv_iload_n hx hb dX6_readInstruction_21 rfl (lv_at hl 0 rfl) ?_
  refine lv_bipush (v := 59) hx hb dX6_readInstruction_22 (by decide) ?_
  refine lv_icmp_le (tgt := 36) hx hb dX6_readInstruction_24 (by decide) (fun c_10 => ?_) (fun c_10 => ?_)
  · skip
    rw [if_pos c_10] at hf
    refine lv_iload_n hx hb dX6_readInstruction_36 rfl (lv_at hl 0 rfl) ?_
    refine lv_iconst (v := 2) hx hb dX6_readInstruction_37 (by decide) ?_
    refine de_cut (h := 79) (fun (x : St) => []) (fun x ls H locs => lv_has ls 4 [(2, .int r_8), (0, .ref (a h0))] ∧ va_P (dC, dI) vwCl (Wd cy a sh n x) H ∧ va_D A (Wd cy a sh n x) ∧ va_S A s.heap H locs) (fun x => fn_X6_readInstruction_B79 F sh n r_8 h0 x) (z8, r8) ?_ (fun B79 => ?_)
    · intro x ls H locs hI hf
      obtain ⟨z_11, ez⟩ : ∃ w, w = x := ⟨_, rfl⟩
      subst ez
      obtain ⟨hl2, hP2, hD2, hS2⟩ := hI
      replace hl : lv_has ls 4 [(2, .int r_8), (0, .ref (a h0))] := hl2
      replace hP := hP2
      replace hD := hD2
      replace hS := hS2
      clear hl2 hP2 hD2 hS2
      replace hf := fn_X6_readInstruction_B79_s hf
      refine W.eq (g2 := F0 m 79 ls []) rfl ?_
      refine lv_iload_n hx hb dX6_readInstruction_79 rfl (lv_at hl 0 rfl) ?_
      refine lv_iconst (v := 5) hx hb dX6_readInstruction_80 (by decide) ?_
      refine de_cut (h := 135) (fun (x : St) => []) (fun x ls H locs => lv_has ls 4 [(2, .int r_8), (0, .ref (a h0))] ∧ va_P (dC, dI) vwCl (Wd cy a sh n x) H ∧ va_D A (Wd cy a sh n x) ∧ va_S A s.heap H locs) (fun x => fn_X6_readInstruction_B135 F sh n r_8 h0 x) (z8, r8) ?_ (fun B135 => ?_)
      · intro x ls H locs hI hf
        obtain ⟨z_12, ez⟩ : ∃ w, w = x := ⟨_, rfl⟩
        subst ez
        obtain ⟨hl2, hP2, hD2, hS2⟩ := hI
        replace hl : lv_has ls 4 [(2, .int r_8), (0, .ref (a h0))] := hl2
        replace hP := hP2
        replace hD := hD2
        replace hS := hS2
        clear hl2 hP2 hD2 hS2
        replace hf := fn_X6_readInstruction_B135_s hf
        refine W.eq (g2 := F0 m 135 ls []) rfl ?_
        refine lv_iload_n hx hb dX6_readInstruction_135 rfl (lv_at hl 0 rfl) ?_
        refine lv_bipush (v := 11) hx hb dX6_readInstruction_136 (by decide) ?_
        refine de_cut (h := 161) (fun (x : St) => []) (fun x ls H locs => lv_has ls 4 [(2, .int r_8), (0, .ref (a h0))] ∧ va_P (dC, dI) vwCl (Wd cy a sh n x) H ∧ va_D A (Wd cy a sh n x) ∧ va_S A s.heap H locs) (fun x => fn_X6_readInstruction_B161 F sh n r_8 h0 x) (z8, r8) ?_ (fun B161 => ?_)
        · intro x ls H locs hI hf
          obtain ⟨z_13, ez⟩ : ∃ w, w = x := ⟨_, rfl⟩
          subst ez
          obtain ⟨hl2, hP2, hD2, hS2⟩ := hI
          replace hl : lv_has ls 4 [(2, .int r_8), (0, .ref (a h0))] := hl2
          replace hP := hP2
          replace hD := hD2
          replace hS := hS2
          clear hl2 hP2 hD2 hS2
          replace hf := fn_X6_readInstruction_B161_s hf
          refine W.eq (g2 := F0 m 161 ls []) rfl ?_
          refine lv_iload_n hx hb dX6_readInstruction_161 rfl (lv_at hl 0 rfl) ?_
          refine lv_bipush (v := 16) hx hb dX6_readInstruction_162 (by decide) ?_
          refine de_cut (h := 173) (fun (x : St) => []) (fun x ls H locs => lv_has ls 4 [(0, .ref (a h0))] ∧ va_P (dC, dI) vwCl (Wd cy a sh n x) H ∧ va_D A (Wd cy a sh n x) ∧ va_S A s.heap H locs) (fun x => fn_X6_readInstruction_B173 F sh n h0 x) (z8, r8) ?_ (fun B173 => ?_)
          · intro x ls H locs hI hf
            obtain ⟨z_14, ez⟩ : ∃ w, w = x := ⟨_, rfl⟩
            subst ez
            obtain ⟨hl2, hP2, hD2, hS2⟩ := hI
            replace hl : lv_has ls 4 [(0, .ref (a h0))] := hl2
            replace hP := hP2
            replace hD := hD2
            replace hS := hS2
            clear hl2 hP2 hD2 hS2
            replace hf := fn_X6_readInstruction_B173_s hf
            refine W.eq (g2 := F0 m 173 ls []) rfl ?_
            refine lv_aload_n hx hb dX6_readInstruction_173 rfl (lv_at hl 0 rfl) ?_
            obtain ⟨z_15, r_16, hfc, hf⟩ := cal_some hf
            have hFc := de_free hD hS hA
            refine va_calli (va_runV (As := []) (rest := []) ⟨hx, hb, hml, hown, hts⟩ (de_X6_readOwnStructure l dC dI cy a sh n H.size F z_14 h0 hfc) (cwV 0 hts gX6_readInstruction_X6_readOwnStructure rfl rfl rfl (by decide +kernel) ⟨Nat.le_of_ble_eq_true rfl, Nat.le_of_ble_eq_true rfl⟩) ⟨fun a U g mk q => by obtain ⟨q0, q1, qP, qK, qD, qN⟩ := q; exact ⟨q0, q1, qP, va_K.moved (u := U) (U := U.calling g mk a) (Vm.Alike.refl U.vm) qK, qD, qN.same rfl⟩, va_recv hK hP (ci := 6) (q0 := h0) rfl (Wd_ob kg_1 sg_1 (by decide)), fun U hU hW => ⟨rfl, by rw [hU], by rw [hU]; exact hP, va_K.moved hW.alike hK, hD.weaken (fun _ _ _ _ => trivial), hN.warm hW⟩⟩ rfl rfl hl.1 rfl (lv_room (Nat.le_of_ble_eq_true rfl)) dX6_readInstruction_174 ⟨Nat.le_of_ble_eq_true rfl, Nat.le_of_ble_eq_true rfl⟩) hS (fun q _ h => hFc q h) hFc (fun rr u t H_17 locs ht hvm hw hB hz1 hk1 hS2 => ?_)
            rw [hw]
            clear hw
            obtain ⟨hP1, -, hD1⟩ := hB
            rw [ht] at hP1
            replace hD := hD1.weaken (fun _ _ _ h => hFc _ h)
            replace hP := hP1
            replace hS := hS2
            clear hP1 hD1 hS2 hFc hfc hz1 hk1 hvm ht
            refine lv_istore_n (lv' := [(3, .int r_16), (0, .ref (a h0))]) hx hb dX6_readInstruction_177 rfl hl (by decide) rfl (fun ls hl2 => ?_)
            replace hl := hl2
            clear hl2
            refine lv_aload_n hx hb dX6_readInstruction_178 rfl (lv_at hl 1 rfl) ?_
            refine lv_aload_n hx hb dX6_readInstruction_179 rfl (lv_at hl 1 rfl) ?_
            obtain ⟨k_18, ek_18, hf⟩ := lnk_some hf
            refine va_get (D := (dC, dI)) (ci := 6) (v := .ref (a k_18)) (C := RX6) (T := TX6) (N := 9) hx hb hts iwd_X6_readInstruction_X6 hown hK hP h0 (Wd_ob kg_1 sg_1 (by decide)) rfl 2 (by decide) (hts _ md_X6_readInstruction_1) (fun _ h9 => h9) (fl_q rfl ek_18) dX6_readInstruction_180 ?_
            refine lv_iload_n hx hb dX6_readInstruction_183 rfl (lv_at hl 0 rfl) ?_
            obtain ⟨g_21, hf⟩ := grd_some hf
            obtain ⟨kg_21, sg_21⟩ := okO_at g_21
            obtain ⟨z_19, r_20, hfc, hf⟩ := cal_some hf
            have hFc := de_free hD hS hA
            refine va_calli (va_runV (As := [.int r_16]) (rest := [.ref (a h0)]) ⟨hx, hb, hml, hown, hts⟩ (de_X5_fieldCount l dC dI cy a sh n H_17.size F z_15 k_18 r_16 hfc) (cwV 1 hts gX6_readInstruction_X5_fieldCount rfl rfl rfl (by decide +kernel) ⟨Nat.le_of_ble_eq_true rfl, Nat.le_of_ble_eq_true rfl⟩) ⟨fun a U g mk q => by obtain ⟨q0, q1, qP, qK, qD, qN⟩ := q; exact ⟨q0, q1, qP, va_K.moved (u := U) (U := U.calling g mk a) (Vm.Alike.refl U.vm) qK, qD, qN.same rfl⟩, va_recv hK hP (ci := 5) (q0 := k_18) rfl (Wd_ob kg_21 sg_21 (by decide)), fun U hU hW => ⟨rfl, by rw [hU], by rw [hU]; exact hP, va_K.moved hW.alike hK, hD.weaken (fun _ _ _ _ => trivial), hN.warm hW⟩⟩ rfl rfl hl.1 rfl (lv_room (Nat.le_of_ble_eq_true rfl)) dX6_readInstruction_184 ⟨Nat.le_of_ble_eq_true rfl, Nat.le_of_ble_eq_true rfl⟩) hS (fun q _ h => hFc q h) hFc (fun rr u t H_22 locs ht hvm hw hB hz1 hk1 hS2 => ?_)
            rw [hw]
            clear hw
            obtain ⟨hP1, -, hD1⟩ := hB
            rw [ht] at hP1
            replace hD := hD1.weaken (fun _ _ _ h => hFc _ h)
            replace hP := hP1
            replace hS := hS2
            clear hP1 hD1 hS2 hFc hfc hz1 hk1 hvm ht
            refine lv_bipush (v := 9) hx hb dX6_readInstruction_187 (by decide) ?_
            obtain ⟨z_23, r_24, hfc, hf⟩ := cal_some hf
            have hFc := de_free hD hS hA
            refine va_calli (va_runV (As := [.int r_20, .int 9]) (rest := []) ⟨hx, hb, hml, hown, hts⟩ (de_X6_readJudged l dC dI cy a sh n H_22.size F z_19 h0 r_20 9 hfc) (cwV 2 hts gX6_readInstruction_X6_readJudged rfl rfl rfl (by decide +kernel) ⟨Nat.le_of_ble_eq_true rfl, Nat.le_of_ble_eq_true rfl⟩) ⟨fun a U g mk q => by obtain ⟨q0, q1, qP, qK, qD, qN⟩ := q; exact ⟨q0, q1, qP, va_K.moved (u := U) (U := U.calling g mk a) (Vm.Alike.refl U.vm) qK, qD, qN.same rfl⟩, va_recv hK hP (ci := 6) (q0 := h0) rfl (Wd_ob kg_1 sg_1 (by decide)), fun U hU hW => ⟨rfl, by rw [hU], by rw [hU]; exact hP, va_K.moved hW.alike hK, hD.weaken (fun _ _ _ _ => trivial), hN.warm hW⟩⟩ rfl rfl hl.1 rfl (lv_room (Nat.le_of_ble_eq_true rfl)) dX6_readInstruction_189 ⟨Nat.le_of_ble_eq_true rfl, Nat.le_of_ble_eq_true rfl⟩) hS (fun q _ h => hFc q h) hFc (fun rr u t H_25 locs ht hvm hw hB hz1 hk1 hS2 => ?_)
            rw [hw]
            clear hw
            obtain ⟨hP1, -, hD1⟩ := hB
            rw [ht] at hP1
            replace hD := hD1.weaken (fun _ _ _ h => hFc _ h)
            replace hP := hP1
            replace hS := hS2
            clear hP1 hD1 hS2 hFc hfc hz1 hk1 hvm ht
            refine lv_pop hx hb dX6_readInstruction_192 rfl ?_
            refine lv_goto (tgt := 299) hx hb dX6_readInstruction_193 (by decide) ?_
            obtain ⟨h8, h9⟩ := ret_some hf
            rw [h8]
            exact W.vret hx hb hr (fun t ht hW => ⟨⟨(), rfl, trivial, by rw [ht]; exact hP, va_K.moved hW.alike hK, hD⟩, hS.F ht⟩) hS.2.2 dX6_readInstruction_299
          refine lv_icmp_eq (tgt := 173) hx hb dX6_readInstruction_164 (by decide) (fun c_26 => ?_) (fun c_26 => ?_)
          · skip
            rw [if_pos c_26] at hf
            exact B173 (z_13) ls H locs ⟨lv_sub hl [1] rfl, hP, hD, hS⟩ hf
          · skip
            rw [if_neg c_26] at hf
            refine lv_iload_n hx hb dX6_readInstruction_167 rfl (lv_at hl 0 rfl) ?_
            refine lv_bipush (v := 17) hx hb dX6_readInstruction_168 (by decide) ?_
            refine lv_icmp_ne (tgt := 196) hx hb dX6_readInstruction_170 (by decide) (fun c_27 => ?_) (fun c_27 => ?_)
            · skip
              rw [if_neg c_27] at hf
              refine lv_iload_n hx hb dX6_readInstruction_196 rfl (lv_at hl 0 rfl) ?_
              refine lv_bipush (v := 21) hx hb dX6_readInstruction_197 (by decide) ?_
              refine lv_icmp_eq (tgt := 220) hx hb dX6_readInstruction_199 (by decide) (fun c_28 => ?_) (fun c_28 => ?_)
              · skip
                rw [if_pos c_28] at hf
                refine lv_aload_n hx hb dX6_readInstruction_220 rfl (lv_at hl 1 rfl) ?_
                obtain ⟨z_29, r_30, hfc, hf⟩ := cal_some hf
                have hFc := de_free hD hS hA
                refine va_calli (va_runV (As := []) (rest := []) ⟨hx, hb, hml, hown, hts⟩ (de_X6_readOwnStructure l dC dI cy a sh n H.size F z_13 h0 hfc) (cwV 0 hts gX6_readInstruction_X6_readOwnStructure rfl rfl rfl (by decide +kernel) ⟨Nat.le_of_ble_eq_true rfl, Nat.le_of_ble_eq_true rfl⟩) ⟨fun a U g mk q => by obtain ⟨q0, q1, qP, qK, qD, qN⟩ := q; exact ⟨q0, q1, qP, va_K.moved (u := U) (U := U.calling g mk a) (Vm.Alike.refl U.vm) qK, qD, qN.same rfl⟩, va_recv hK hP (ci := 6) (q0 := h0) rfl (Wd_ob kg_1 sg_1 (by decide)), fun U hU hW => ⟨rfl, by rw [hU], by rw [hU]; exact hP, va_K.moved hW.alike hK, hD.weaken (fun _ _ _ _ => trivial), hN.warm hW⟩⟩ rfl rfl hl.1 rfl (lv_room (Nat.le_of_ble_eq_true rfl)) dX6_readInstruction_221 ⟨Nat.le_of_ble_eq_true rfl, Nat.le_of_ble_eq_true rfl⟩) hS (fun q _ h => hFc q h) hFc (fun rr u t H_31 locs ht hvm hw hB hz1 hk1 hS2 => ?_)
                rw [hw]
                clear hw
                obtain ⟨hP1, -, hD1⟩ := hB
                rw [ht] at hP1
                replace hD := hD1.weaken (fun _ _ _ h => hFc _ h)
                replace hP := hP1
                replace hS := hS2
                clear hP1 hD1 hS2 hFc hfc hz1 hk1 hvm ht
                refine lv_pop hx hb dX6_readInstruction_224 rfl ?_
                refine lv_goto (tgt := 299) hx hb dX6_readInstruction_225 (by decide) ?_
                obtain ⟨h8, h9⟩ := ret_some hf
                rw [h8]
                exact W.vret hx hb hr (fun t ht hW => ⟨⟨(), rfl, trivial, by rw [ht]; exact hP, va_K.moved hW.alike hK, hD⟩, hS.F ht⟩) hS.2.2 dX6_readInstruction_299
              · skip
                rw [if_neg c_28] at hf
                refine lv_iload_n hx hb dX6_readInstruction_202 rfl (lv_at hl 0 rfl) ?_
                refine lv_bipush (v := 22) hx hb dX6_readInstruction_203 (by decide) ?_
                refine lv_icmp_eq (tgt := 220) hx hb dX6_readInstruction_205 (by decide) (fun c_32 => ?_) (fun c_32 => ?_)
                · skip
                  rw [if_pos c_32] at hf
                  refine lv_aload_n hx hb dX6_readInstruction_220 rfl (lv_at hl 1 rfl) ?_
                  obtain ⟨z_33, r_34, hfc, hf⟩ := cal_some hf
                  have hFc := de_free hD hS hA
                  refine va_calli (va_runV (As := []) (rest := []) ⟨hx, hb, hml, hown, hts⟩ (de_X6_readOwnStructure l dC dI cy a sh n H.size F z_13 h0 hfc) (cwV 0 hts gX6_readInstruction_X6_readOwnStructure rfl rfl rfl (by decide +kernel) ⟨Nat.le_of_ble_eq_true rfl, Nat.le_of_ble_eq_true rfl⟩) ⟨fun a U g mk q => by obtain ⟨q0, q1, qP, qK, qD, qN⟩ := q; exact ⟨q0, q1, qP, va_K.moved (u := U) (U := U.calling g mk a) (Vm.Alike.refl U.vm) qK, qD, qN.same rfl⟩, va_recv hK hP (ci := 6) (q0 := h0) rfl (Wd_ob kg_1 sg_1 (by decide)), fun U hU hW => ⟨rfl, by rw [hU], by rw [hU]; exact hP, va_K.moved hW.alike hK, hD.weaken (fun _ _ _ _ => trivial), hN.warm hW⟩⟩ rfl rfl hl.1 rfl (lv_room (Nat.le_of_ble_eq_true rfl)) dX6_readInstruction_221 ⟨Nat.le_of_ble_eq_true rfl, Nat.le_of_ble_eq_true rfl⟩) hS (fun q _ h => hFc q h) hFc (fun rr u t H_35 locs ht hvm hw hB hz1 hk1 hS2 => ?_)
                  rw [hw]
                  clear hw
                  obtain ⟨hP1, -, hD1⟩ := hB
                  rw [ht] at hP1
                  replace hD := hD1.weaken (fun _ _ _ h => hFc _ h)
                  replace hP := hP1
                  replace hS := hS2
                  clear hP1 hD1 hS2 hFc hfc hz1 hk1 hvm ht
                  refine lv_pop hx hb dX6_readInstruction_224 rfl ?_
                  refine lv_goto (tgt := 299) hx hb dX6_readInstruction_225 (by decide) ?_
                  obtain ⟨h8, h9⟩ := ret_some hf
                  rw [h8]
                  exact W.vret hx hb hr (fun t ht hW => ⟨⟨(), rfl, trivial, by rw [ht]; exact hP, va_K.moved hW.alike hK, hD⟩, hS.F ht⟩) hS.2.2 dX6_readInstruction_299
                · skip
                  rw [if_neg c_32] at hf
                  refine lv_iload_n hx hb dX6_readInstruction_208 rfl (lv_at hl 0 rfl) ?_
                  refine lv_bipush (v := 47) hx hb dX6_readInstruction_209 (by decide) ?_
                  refine de_cut (h := 228) (fun (x : St) => []) (fun x ls H locs => lv_has ls 4 [(2, .int r_8), (0, .ref (a h0))] ∧ va_P (dC, dI) vwCl (Wd cy a sh n x) H ∧ va_D A (Wd cy a sh n x) ∧ va_S A s.heap H locs) (fun x => fn_X6_readInstruction_B228 F sh n r_8 h0 x) (z8, r8) ?_ (fun B228 => ?_)
                  · intro x ls H locs hI hf
                    obtain ⟨z_36, ez⟩ : ∃ w, w = x := ⟨_, rfl⟩
                    subst ez
                    obtain ⟨hl2, hP2, hD2, hS2⟩ := hI
                    replace hl : lv_has ls 4 [(2, .int r_8), (0, .ref (a h0))] := hl2
                    replace hP := hP2
                    replace hD := hD2
                    replace hS := hS2
                    clear hl2 hP2 hD2 hS2
                    replace hf := fn_X6_readInstruction_B228_s hf
                    refine W.eq (g2 := F0 m 228 ls []) rfl ?_
                    refine lv_iload_n hx hb dX6_readInstruction_228 rfl (lv_at hl 0 rfl) ?_
                    refine lv_bipush (v := 23) hx hb dX6_readInstruction_229 (by decide) ?_
                    refine lv_icmp_ne (tgt := 259) hx hb dX6_readInstruction_231 (by decide) (fun c_37 => ?_) (fun c_37 => ?_)
                    · skip
                      rw [if_neg c_37] at hf
                      refine lv_iload_n hx hb dX6_readInstruction_259 rfl (lv_at hl 0 rfl) ?_
                      refine lv_bipush (v := 52) hx hb dX6_readInstruction_260 (by decide) ?_
                      refine lv_icmp_lt (tgt := 299) hx hb dX6_readInstruction_262 (by decide) (fun c_38 => ?_) (fun c_38 => ?_)
                      · skip
                        rw [if_pos c_38] at hf
                        obtain ⟨h8, h9⟩ := ret_some hf
                        rw [h8]
                        exact W.vret hx hb hr (fun t ht hW => ⟨⟨(), rfl, trivial, by rw [ht]; exact hP, va_K.moved hW.alike hK, hD⟩, hS.F ht⟩) hS.2.2 dX6_readInstruction_299
                      · skip
                        rw [if_neg c_38] at hf
                        refine lv_iload_n hx hb dX6_readInstruction_265 rfl (lv_at hl 0 rfl) ?_
                        refine lv_bipush (v := 58) hx hb dX6_readInstruction_266 (by decide) ?_
                        refine lv_icmp_gt (tgt := 299) hx hb dX6_readInstruction_268 (by decide) (fun c_39 => ?_) (fun c_39 => ?_)
                        · skip
                          rw [if_pos c_39] at hf
                          obtain ⟨h8, h9⟩ := ret_some hf
                          rw [h8]
                          exact W.vret hx hb hr (fun t ht hW => ⟨⟨(), rfl, trivial, by rw [ht]; exact hP, va_K.moved hW.alike hK, hD⟩, hS.F ht⟩) hS.2.2 dX6_readInstruction_299
                        · skip
                          rw [if_neg c_39] at hf
                          refine lv_aload_n hx hb dX6_readInstruction_271 rfl (lv_at hl 1 rfl) ?_
                          refine lv_aload_n hx hb dX6_readInstruction_272 rfl (lv_at hl 1 rfl) ?_
                          obtain ⟨k_40, ek_40, hf⟩ := lnk_some hf
                          refine va_get (D := (dC, dI)) (ci := 6) (v := .ref (a k_40)) (C := RX6) (T := TX6) (N := 9) hx hb hts iwd_X6_readInstruction_X6 hown hK hP h0 (Wd_ob kg_1 sg_1 (by decide)) rfl 2 (by decide) (hts _ md_X6_readInstruction_1) (fun _ h9 => h9) (fl_q rfl ek_40) dX6_readInstruction_273 ?_
                          obtain ⟨g_41, hf⟩ := grd_some hf
                          obtain ⟨kg_41, sg_41⟩ := okO_at g_41
                          refine va_get (D := (dC, dI)) (ci := 5) (v := .int (z_36.1 k_40 14)) (C := RX5) (T := TX5) (N := 15) hx hb hts iwd_X6_readInstruction_X5 hown hK hP k_40 (Wd_ob kg_41 sg_41 (by decide)) rfl 14 (by decide) (hts _ md_X6_readInstruction_8) (fun _ h9 => h9) (fl_at (t := 0) rfl) dX6_readInstruction_276 ?_
                          refine lv_bipush (v := 12) hx hb dX6_readInstruction_279 (by decide) ?_
                          obtain ⟨z_42, r_43, hfc, hf⟩ := cal_some hf
                          have hFc := de_free hD hS hA
                          refine va_calli (va_runV (As := [.int (z_36.1 k_40 14), .int 12]) (rest := []) ⟨hx, hb, hml, hown, hts⟩ (de_X6_readJudged l dC dI cy a sh n H.size F z_36 h0 (z_36.1 k_40 14) 12 hfc) (cwV 2 hts gX6_readInstruction_X6_readJudged rfl rfl rfl (by decide +kernel) ⟨Nat.le_of_ble_eq_true rfl, Nat.le_of_ble_eq_true rfl⟩) ⟨fun a U g mk q => by obtain ⟨q0, q1, qP, qK, qD, qN⟩ := q; exact ⟨q0, q1, qP, va_K.moved (u := U) (U := U.calling g mk a) (Vm.Alike.refl U.vm) qK, qD, qN.same rfl⟩, va_recv hK hP (ci := 6) (q0 := h0) rfl (Wd_ob kg_1 sg_1 (by decide)), fun U hU hW => ⟨rfl, by rw [hU], by rw [hU]; exact hP, va_K.moved hW.alike hK, hD.weaken (fun _ _ _ _ => trivial), hN.warm hW⟩⟩ rfl rfl hl.1 rfl (lv_room (Nat.le_of_ble_eq_true rfl)) dX6_readInstruction_281 ⟨Nat.le_of_ble_eq_true rfl, Nat.le_of_ble_eq_true rfl⟩) hS (fun q _ h => hFc q h) hFc (fun rr u t H_44 locs ht hvm hw hB hz1 hk1 hS2 => ?_)
                          rw [hw]
                          clear hw
                          obtain ⟨hP1, -, hD1⟩ := hB
                          rw [ht] at hP1
                          replace hD := hD1.weaken (fun _ _ _ h => hFc _ h)
                          replace hP := hP1
                          replace hS := hS2
                          clear hP1 hD1 hS2 hFc hfc hz1 hk1 hvm ht
                          refine lv_pop hx hb dX6_readInstruction_284 rfl ?_
                          refine lv_iload_n hx hb dX6_readInstruction_285 rfl (lv_at hl 0 rfl) ?_
                          refine lv_bipush (v := 52) hx hb dX6_readInstruction_286 (by decide) ?_
                          refine lv_icmp_ne (tgt := 299) hx hb dX6_readInstruction_288 (by decide) (fun c_45 => ?_) (fun c_45 => ?_)
                          · skip
                            rw [if_neg c_45] at hf
                            obtain ⟨h8, h9⟩ := ret_some hf
                            rw [h8]
                            exact W.vret hx hb hr (fun t ht hW => ⟨⟨(), rfl, trivial, by rw [ht]; exact hP, va_K.moved hW.alike hK, hD⟩, hS.F ht⟩) hS.2.2 dX6_readInstruction_299
                          · skip
                            rw [if_pos c_45] at hf
                            refine lv_aload_n hx hb dX6_readInstruction_291 rfl (lv_at hl 1 rfl) ?_
                            refine lv_iconst (v := 0) hx hb dX6_readInstruction_292 (by decide) ?_
                            refine lv_bipush (v := 64) hx hb dX6_readInstruction_293 (by decide) ?_
                            obtain ⟨z_46, r_47, hfc, hf⟩ := cal_some hf
                            have hFc := de_free hD hS hA
                            refine va_calli (va_runV (As := [.int 0, .int 64]) (rest := []) ⟨hx, hb, hml, hown, hts⟩ (de_X6_readNumber l dC dI cy a sh n H_44.size F z_42 h0 0 64 hfc) (cwV 2 hts gX6_readInstruction_X6_readNumber rfl rfl rfl (by decide +kernel) ⟨Nat.le_of_ble_eq_true rfl, Nat.le_of_ble_eq_true rfl⟩) ⟨fun a U g mk q => by obtain ⟨q0, q1, qP, qK, qD, qN⟩ := q; exact ⟨q0, q1, qP, va_K.moved (u := U) (U := U.calling g mk a) (Vm.Alike.refl U.vm) qK, qD, qN.same rfl⟩, va_recv hK hP (ci := 6) (q0 := h0) rfl (Wd_ob kg_1 sg_1 (by decide)), fun U hU hW => ⟨rfl, by rw [hU], by rw [hU]; exact hP, va_K.moved hW.alike hK, hD.weaken (fun _ _ _ _ => trivial), hN.warm hW⟩⟩ rfl rfl hl.1 rfl (lv_room (Nat.le_of_ble_eq_true rfl)) dX6_readInstruction_295 ⟨Nat.le_of_ble_eq_true rfl, Nat.le_of_ble_eq_true rfl⟩) hS (fun q _ h => hFc q h) hFc (fun rr u t H_48 locs ht hvm hw hB hz1 hk1 hS2 => ?_)
                            rw [hw]
                            clear hw
                            obtain ⟨hP1, -, hD1⟩ := hB
                            rw [ht] at hP1
                            replace hD := hD1.weaken (fun _ _ _ h => hFc _ h)
                            replace hP := hP1
                            replace hS := hS2
                            clear hP1 hD1 hS2 hFc hfc hz1 hk1 hvm ht
                            refine lv_pop hx hb dX6_readInstruction_298 rfl ?_
                            obtain ⟨h8, h9⟩ := ret_some hf
                            rw [h8]
                            exact W.vret hx hb hr (fun t ht hW => ⟨⟨(), rfl, trivial, by rw [ht]; exact hP, va_K.moved hW.alike hK, hD⟩, hS.F ht⟩) hS.2.2 dX6_readInstruction_299
                    · skip
                      rw [if_pos c_37] at hf
                      refine lv_aload_n hx hb dX6_readInstruction_234 rfl (lv_at hl 1 rfl) ?_
                      refine lv_aload_n hx hb dX6_readInstruction_235 rfl (lv_at hl 1 rfl) ?_
                      obtain ⟨k_49, ek_49, hf⟩ := lnk_some hf
                      refine va_get (D := (dC, dI)) (ci := 6) (v := .ref (a k_49)) (C := RX6) (T := TX6) (N := 9) hx hb hts iwd_X6_readInstruction_X6 hown hK hP h0 (Wd_ob kg_1 sg_1 (by decide)) rfl 2 (by decide) (hts _ md_X6_readInstruction_1) (fun _ h9 => h9) (fl_q rfl ek_49) dX6_readInstruction_236 ?_
                      obtain ⟨g_50, hf⟩ := grd_some hf
                      obtain ⟨kg_50, sg_50⟩ := okO_at g_50
                      refine va_get (D := (dC, dI)) (ci := 5) (v := .int (z_36.1 k_49 11)) (C := RX5) (T := TX5) (N := 15) hx hb hts iwd_X6_readInstruction_X5 hown hK hP k_49 (Wd_ob kg_50 sg_50 (by decide)) rfl 11 (by decide) (hts _ md_X6_readInstruction_6) (fun _ h9 => h9) (fl_at (t := 0) rfl) dX6_readInstruction_239 ?_
                      refine lv_aload_n hx hb dX6_readInstruction_242 rfl (lv_at hl 1 rfl) ?_
                      obtain ⟨k_51, ek_51, hf⟩ := lnk_some hf
                      refine va_get (D := (dC, dI)) (ci := 6) (v := .ref (a k_51)) (C := RX6) (T := TX6) (N := 9) hx hb hts iwd_X6_readInstruction_X6 hown hK hP h0 (Wd_ob kg_1 sg_1 (by decide)) rfl 2 (by decide) (hts _ md_X6_readInstruction_1) (fun _ h9 => h9) (fl_q rfl ek_51) dX6_readInstruction_243 ?_
                      obtain ⟨g_52, hf⟩ := grd_some hf
                      obtain ⟨kg_52, sg_52⟩ := okO_at g_52
                      refine va_get (D := (dC, dI)) (ci := 5) (v := .int (z_36.1 k_51 12)) (C := RX5) (T := TX5) (N := 15) hx hb hts iwd_X6_readInstruction_X5 hown hK hP k_51 (Wd_ob kg_52 sg_52 (by decide)) rfl 12 (by decide) (hts _ md_X6_readInstruction_7) (fun _ h9 => h9) (fl_at (t := 0) rfl) dX6_readInstruction_246 ?_
                      refine lv_iadd hx hb dX6_readInstruction_249 ?_
                      refine lv_bipush (v := 11) hx hb dX6_readInstruction_250 (by decide) ?_
                      obtain ⟨z_53, r_54, hfc, hf⟩ := cal_some hf
                      have hFc := de_free hD hS hA
                      refine va_calli (va_runV (As := [.int ((z_36.1 k_49 11) + (z_36.1 k_51 12)), .int 11]) (rest := []) ⟨hx, hb, hml, hown, hts⟩ (de_X6_readJudged l dC dI cy a sh n H.size F z_36 h0 ((z_36.1 k_49 11) + (z_36.1 k_51 12)) 11 hfc) (cwV 2 hts gX6_readInstruction_X6_readJudged rfl rfl rfl (by decide +kernel) ⟨Nat.le_of_ble_eq_true rfl, Nat.le_of_ble_eq_true rfl⟩) ⟨fun a U g mk q => by obtain ⟨q0, q1, qP, qK, qD, qN⟩ := q; exact ⟨q0, q1, qP, va_K.moved (u := U) (U := U.calling g mk a) (Vm.Alike.refl U.vm) qK, qD, qN.same rfl⟩, va_recv hK hP (ci := 6) (q0 := h0) rfl (Wd_ob kg_1 sg_1 (by decide)), fun U hU hW => ⟨rfl, by rw [hU], by rw [hU]; exact hP, va_K.moved hW.alike hK, hD.weaken (fun _ _ _ _ => trivial), hN.warm hW⟩⟩ rfl rfl hl.1 rfl (lv_room (Nat.le_of_ble_eq_true rfl)) dX6_readInstruction_252 ⟨Nat.le_of_ble_eq_true rfl, Nat.le_of_ble_eq_true rfl⟩) hS (fun q _ h => hFc q h) hFc (fun rr u t H_55 locs ht hvm hw hB hz1 hk1 hS2 => ?_)
                      rw [hw]
                      clear hw
                      obtain ⟨hP1, -, hD1⟩ := hB
                      rw [ht] at hP1
                      replace hD := hD1.weaken (fun _ _ _ h => hFc _ h)
                      replace hP := hP1
                      replace hS := hS2
                      clear hP1 hD1 hS2 hFc hfc hz1 hk1 hvm ht
                      refine lv_pop hx hb dX6_readInstruction_255 rfl ?_
                      refine lv_goto (tgt := 299) hx hb dX6_readInstruction_256 (by decide) ?_
                      obtain ⟨h8, h9⟩ := ret_some hf
                      rw [h8]
                      exact W.vret hx hb hr (fun t ht hW => ⟨⟨(), rfl, trivial, by rw [ht]; exact hP, va_K.moved hW.alike hK, hD⟩, hS.F ht⟩) hS.2.2 dX6_readInstruction_299
                  refine lv_icmp_lt (tgt := 228) hx hb dX6_readInstruction_211 (by decide) (fun c_56 => ?_) (fun c_56 => ?_)
                  · skip
                    rw [if_pos c_56] at hf
                    exact B228 (z_13) ls H locs ⟨lv_sub hl [0, 1] rfl, hP, hD, hS⟩ hf
                  · skip
                    rw [if_neg c_56] at hf
                    refine lv_iload_n hx hb dX6_readInstruction_214 rfl (lv_at hl 0 rfl) ?_
                    refine lv_bipush (v := 51) hx hb dX6_readInstruction_215 (by decide) ?_
                    refine lv_icmp_gt (tgt := 228) hx hb dX6_readInstruction_217 (by decide) (fun c_57 => ?_) (fun c_57 => ?_)
                    · skip
                      rw [if_pos c_57] at hf
                      exact B228 (z_13) ls H locs ⟨lv_sub hl [0, 1] rfl, hP, hD, hS⟩ hf
                    · skip
                      rw [if_neg c_57] at hf
                      refine lv_aload_n hx hb dX6_readInstruction_220 rfl (lv_at hl 1 rfl) ?_
                      obtain ⟨z_58, r_59, hfc, hf⟩ := cal_some hf
                      have hFc := de_free hD hS hA
                      refine va_calli (va_runV (As := []) (rest := []) ⟨hx, hb, hml, hown, hts⟩ (de_X6_readOwnStructure l dC dI cy a sh n H.size F z_13 h0 hfc) (cwV 0 hts gX6_readInstruction_X6_readOwnStructure rfl rfl rfl (by decide +kernel) ⟨Nat.le_of_ble_eq_true rfl, Nat.le_of_ble_eq_true rfl⟩) ⟨fun a U g mk q => by obtain ⟨q0, q1, qP, qK, qD, qN⟩ := q; exact ⟨q0, q1, qP, va_K.moved (u := U) (U := U.calling g mk a) (Vm.Alike.refl U.vm) qK, qD, qN.same rfl⟩, va_recv hK hP (ci := 6) (q0 := h0) rfl (Wd_ob kg_1 sg_1 (by decide)), fun U hU hW => ⟨rfl, by rw [hU], by rw [hU]; exact hP, va_K.moved hW.alike hK, hD.weaken (fun _ _ _ _ => trivial), hN.warm hW⟩⟩ rfl rfl hl.1 rfl (lv_room (Nat.le_of_ble_eq_true rfl)) dX6_readInstruction_221 ⟨Nat.le_of_ble_eq_true rfl, Nat.le_of_ble_eq_true rfl⟩) hS (fun q _ h => hFc q h) hFc (fun rr u t H_60 locs ht hvm hw hB hz1 hk1 hS2 => ?_)
                      rw [hw]
                      clear hw
                      obtain ⟨hP1, -, hD1⟩ := hB
                      rw [ht] at hP1
                      replace hD := hD1.weaken (fun _ _ _ h => hFc _ h)
                      replace hP := hP1
                      replace hS := hS2
                      clear hP1 hD1 hS2 hFc hfc hz1 hk1 hvm ht
                      refine lv_pop hx hb dX6_readInstruction_224 rfl ?_
                      refine lv_goto (tgt := 299) hx hb dX6_readInstruction_225 (by decide) ?_
                      obtain ⟨h8, h9⟩ := ret_some hf
                      rw [h8]
                      exact W.vret hx hb hr (fun t ht hW => ⟨⟨(), rfl, trivial, by rw [ht]; exact hP, va_K.moved hW.alike hK, hD⟩, hS.F ht⟩) hS.2.2 dX6_readInstruction_299
            · skip
              rw [if_pos c_27] at hf
              exact B173 (z_13) ls H locs ⟨lv_sub hl [1] rfl, hP, hD, hS⟩ hf
        refine lv_icmp_lt (tgt := 161) hx hb dX6_readInstruction_138 (by decide) (fun c_61 => ?_) (fun c_61 => ?_)
        · skip
          rw [if_pos c_61] at hf
          exact B161 (z_12) ls H locs ⟨lv_sub hl [0, 1] rfl, hP, hD, hS⟩ hf
        · skip
          rw [if_neg c_61] at hf
          refine lv_iload_n hx hb dX6_readInstruction_141 rfl (lv_at hl 0 rfl) ?_
          refine lv_bipush (v := 15) hx hb dX6_readInstruction_142 (by decide) ?_
          refine lv_icmp_gt (tgt := 161) hx hb dX6_readInstruction_144 (by decide) (fun c_62 => ?_) (fun c_62 => ?_)
          · skip
            rw [if_pos c_62] at hf
            exact B161 (z_12) ls H locs ⟨lv_sub hl [0, 1] rfl, hP, hD, hS⟩ hf
          · skip
            rw [if_neg c_62] at hf
            refine lv_aload_n hx hb dX6_readInstruction_147 rfl (lv_at hl 1 rfl) ?_
            refine lv_aload_n hx hb dX6_readInstruction_148 rfl (lv_at hl 1 rfl) ?_
            refine va_get (D := (dC, dI)) (ci := 6) (v := .int (z_12.1 h0 6)) (C := RX6) (T := TX6) (N := 9) hx hb hts iwd_X6_readInstruction_X6 hown hK hP h0 (Wd_ob kg_1 sg_1 (by decide)) rfl 6 (by decide) (hts _ md_X6_readInstruction_5) (fun _ h9 => h9) (fl_at (t := 0) rfl) dX6_readInstruction_149 ?_
            refine lv_bipush (v := 10) hx hb dX6_readInstruction_152 (by decide) ?_
            obtain ⟨z_63, r_64, hfc, hf⟩ := cal_some hf
            have hFc := de_free hD hS hA
            refine va_calli (va_runV (As := [.int (z_12.1 h0 6), .int 10]) (rest := []) ⟨hx, hb, hml, hown, hts⟩ (de_X6_readJudged l dC dI cy a sh n H.size F z_12 h0 (z_12.1 h0 6) 10 hfc) (cwV 2 hts gX6_readInstruction_X6_readJudged rfl rfl rfl (by decide +kernel) ⟨Nat.le_of_ble_eq_true rfl, Nat.le_of_ble_eq_true rfl⟩) ⟨fun a U g mk q => by obtain ⟨q0, q1, qP, qK, qD, qN⟩ := q; exact ⟨q0, q1, qP, va_K.moved (u := U) (U := U.calling g mk a) (Vm.Alike.refl U.vm) qK, qD, qN.same rfl⟩, va_recv hK hP (ci := 6) (q0 := h0) rfl (Wd_ob kg_1 sg_1 (by decide)), fun U hU hW => ⟨rfl, by rw [hU], by rw [hU]; exact hP, va_K.moved hW.alike hK, hD.weaken (fun _ _ _ _ => trivial), hN.warm hW⟩⟩ rfl rfl hl.1 rfl (lv_room (Nat.le_of_ble_eq_true rfl)) dX6_readInstruction_154 ⟨Nat.le_of_ble_eq_true rfl, Nat.le_of_ble_eq_true rfl⟩) hS (fun q _ h => hFc q h) hFc (fun rr u t H_65 locs ht hvm hw hB hz1 hk1 hS2 => ?_)
            rw [hw]
            clear hw
            obtain ⟨hP1, -, hD1⟩ := hB
            rw [ht] at hP1
            replace hD := hD1.weaken (fun _ _ _ h => hFc _ h)
            replace hP := hP1
            replace hS := hS2
            clear hP1 hD1 hS2 hFc hfc hz1 hk1 hvm ht
            refine lv_pop hx hb dX6_readInstruction_157 rfl ?_
            refine lv_goto (tgt := 299) hx hb dX6_readInstruction_158 (by decide) ?_
            obtain ⟨h8, h9⟩ := ret_some hf
            rw [h8]
            exact W.vret hx hb hr (fun t ht hW => ⟨⟨(), rfl, trivial, by rw [ht]; exact hP, va_K.moved hW.alike hK, hD⟩, hS.F ht⟩) hS.2.2 dX6_readInstruction_299
      refine lv_icmp_lt (tgt := 135) hx hb dX6_readInstruction_81 (by decide) (fun c_66 => ?_) (fun c_66 => ?_)
      · skip
        rw [if_pos c_66] at hf
        exact B135 (z_11) ls H locs ⟨lv_sub hl [0, 1] rfl, hP, hD, hS⟩ hf
      · skip
        rw [if_neg c_66] at hf
        refine lv_iload_n hx hb dX6_readInstruction_84 rfl (lv_at hl 0 rfl) ?_
        refine lv_bipush (v := 10) hx hb dX6_readInstruction_85 (by decide) ?_
        refine lv_icmp_gt (tgt := 135) hx hb dX6_readInstruction_87 (by decide) (fun c_67 => ?_) (fun c_67 => ?_)
        · skip
          rw [if_pos c_67] at hf
          exact B135 (z_11) ls H locs ⟨lv_sub hl [0, 1] rfl, hP, hD, hS⟩ hf
        · skip
          rw [if_neg c_67] at hf
          refine lv_aload_n hx hb dX6_readInstruction_90 rfl (lv_at hl 1 rfl) ?_
          refine lv_iload_n hx hb dX6_readInstruction_91 rfl (lv_at hl 0 rfl) ?_
          refine lv_iconst (v := 5) hx hb dX6_readInstruction_92 (by decide) ?_
          refine lv_icmp_ne (tgt := 100) hx hb dX6_readInstruction_93 (by decide) (fun c_68 => ?_) (fun c_68 => ?_)
          · skip
            rw [if_neg c_68] at hf
            refine lv_iload_n hx hb dX6_readInstruction_100 rfl (lv_at hl 0 rfl) ?_
            refine lv_bipush (v := 7) hx hb dX6_readInstruction_101 (by decide) ?_
            refine lv_icmp_ne (tgt := 111) hx hb dX6_readInstruction_103 (by decide) (fun c_69 => ?_) (fun c_69 => ?_)
            · skip
              rw [if_neg c_69] at hf
              refine lv_iload_n hx hb dX6_readInstruction_111 rfl (lv_at hl 0 rfl) ?_
              refine lv_bipush (v := 6) hx hb dX6_readInstruction_112 (by decide) ?_
              refine lv_icmp_eq (tgt := 123) hx hb dX6_readInstruction_114 (by decide) (fun c_70 => ?_) (fun c_70 => ?_)
              · skip
                rw [if_pos c_70] at hf
                refine lv_bipush (v := 8) hx hb dX6_readInstruction_123 (by decide) ?_
                refine lv_goto (tgt := 129) hx hb dX6_readInstruction_125 (by decide) ?_
                obtain ⟨z_71, _u, hfc, hf⟩ := cal_some hf
                have hFc := de_free hD hS hA
                refine va_callv (va_runV (As := [.int 8]) (rest := []) ⟨hx, hb, hml, hown, hts⟩ (de_X6_pass l dC dI cy a sh n H.size F z_11 h0 8 hfc) (cwV 1 hts gX6_readInstruction_X6_pass rfl rfl rfl (by decide +kernel) ⟨Nat.le_of_ble_eq_true rfl, Nat.le_of_ble_eq_true rfl⟩) ⟨fun a U g mk q => by obtain ⟨q0, q1, qP, qK, qD, qN⟩ := q; exact ⟨q0, q1, qP, va_K.moved (u := U) (U := U.calling g mk a) (Vm.Alike.refl U.vm) qK, qD, qN.same rfl⟩, va_recv hK hP (ci := 6) (q0 := h0) rfl (Wd_ob kg_1 sg_1 (by decide)), fun U hU hW => ⟨rfl, by rw [hU], by rw [hU]; exact hP, va_K.moved hW.alike hK, hD.weaken (fun _ _ _ _ => trivial), hN.warm hW⟩⟩ rfl rfl hl.1 rfl (lv_room (Nat.le_of_ble_eq_true rfl)) dX6_readInstruction_129 ⟨Nat.le_of_ble_eq_true rfl, Nat.le_of_ble_eq_true rfl⟩) hS (fun q _ h => hFc q h) hFc (fun u t H_72 locs ht hvm hw hB hz1 hk1 hS2 => ?_)
                obtain ⟨hP1, -, hD1⟩ := hB
                rw [ht] at hP1
                replace hD := hD1.weaken (fun _ _ _ h => hFc _ h)
                replace hP := hP1
                replace hS := hS2
                clear hP1 hD1 hS2 hFc hfc hz1 hk1 hvm ht
                refine lv_goto (tgt := 299) hx hb dX6_readInstruction_132 (by decide) ?_
                obtain ⟨h8, h9⟩ := ret_some hf
                rw [h8]
                exact W.vret hx hb hr (fun t ht hW => ⟨⟨(), rfl, trivial, by rw [ht]; exact hP, va_K.moved hW.alike hK, hD⟩, hS.F ht⟩) hS.2.2 dX6_readInstruction_299
              · skip
                rw [if_neg c_70] at hf
                refine lv_iload_n hx hb dX6_readInstruction_117 rfl (lv_at hl 0 rfl) ?_
                refine lv_bipush (v := 10) hx hb dX6_readInstruction_118 (by decide) ?_
                refine lv_icmp_ne (tgt := 128) hx hb dX6_readInstruction_120 (by decide) (fun c_73 => ?_) (fun c_73 => ?_)
                · skip
                  rw [if_neg c_73] at hf
                  refine lv_iconst (v := 0) hx hb dX6_readInstruction_128 (by decide) ?_
                  obtain ⟨z_74, _u, hfc, hf⟩ := cal_some hf
                  have hFc := de_free hD hS hA
                  refine va_callv (va_runV (As := [.int 0]) (rest := []) ⟨hx, hb, hml, hown, hts⟩ (de_X6_pass l dC dI cy a sh n H.size F z_11 h0 0 hfc) (cwV 1 hts gX6_readInstruction_X6_pass rfl rfl rfl (by decide +kernel) ⟨Nat.le_of_ble_eq_true rfl, Nat.le_of_ble_eq_true rfl⟩) ⟨fun a U g mk q => by obtain ⟨q0, q1, qP, qK, qD, qN⟩ := q; exact ⟨q0, q1, qP, va_K.moved (u := U) (U := U.calling g mk a) (Vm.Alike.refl U.vm) qK, qD, qN.same rfl⟩, va_recv hK hP (ci := 6) (q0 := h0) rfl (Wd_ob kg_1 sg_1 (by decide)), fun U hU hW => ⟨rfl, by rw [hU], by rw [hU]; exact hP, va_K.moved hW.alike hK, hD.weaken (fun _ _ _ _ => trivial), hN.warm hW⟩⟩ rfl rfl hl.1 rfl (lv_room (Nat.le_of_ble_eq_true rfl)) dX6_readInstruction_129 ⟨Nat.le_of_ble_eq_true rfl, Nat.le_of_ble_eq_true rfl⟩) hS (fun q _ h => hFc q h) hFc (fun u t H_75 locs ht hvm hw hB hz1 hk1 hS2 => ?_)
                  obtain ⟨hP1, -, hD1⟩ := hB
                  rw [ht] at hP1
                  replace hD := hD1.weaken (fun _ _ _ h => hFc _ h)
                  replace hP := hP1
                  replace hS := hS2
                  clear hP1 hD1 hS2 hFc hfc hz1 hk1 hvm ht
                  refine lv_goto (tgt := 299) hx hb dX6_readInstruction_132 (by decide) ?_
                  obtain ⟨h8, h9⟩ := ret_some hf
                  rw [h8]
                  exact W.vret hx hb hr (fun t ht hW => ⟨⟨(), rfl, trivial, by rw [ht]; exact hP, va_K.moved hW.alike hK, hD⟩, hS.F ht⟩) hS.2.2 dX6_readInstruction_299
                · skip
                  rw [if_pos c_73] at hf
                  refine lv_bipush (v := 8) hx hb dX6_readInstruction_123 (by decide) ?_
                  refine lv_goto (tgt := 129) hx hb dX6_readInstruction_125 (by decide) ?_
                  obtain ⟨z_76, _u, hfc, hf⟩ := cal_some hf
                  have hFc := de_free hD hS hA
                  refine va_callv (va_runV (As := [.int 8]) (rest := []) ⟨hx, hb, hml, hown, hts⟩ (de_X6_pass l dC dI cy a sh n H.size F z_11 h0 8 hfc) (cwV 1 hts gX6_readInstruction_X6_pass rfl rfl rfl (by decide +kernel) ⟨Nat.le_of_ble_eq_true rfl, Nat.le_of_ble_eq_true rfl⟩) ⟨fun a U g mk q => by obtain ⟨q0, q1, qP, qK, qD, qN⟩ := q; exact ⟨q0, q1, qP, va_K.moved (u := U) (U := U.calling g mk a) (Vm.Alike.refl U.vm) qK, qD, qN.same rfl⟩, va_recv hK hP (ci := 6) (q0 := h0) rfl (Wd_ob kg_1 sg_1 (by decide)), fun U hU hW => ⟨rfl, by rw [hU], by rw [hU]; exact hP, va_K.moved hW.alike hK, hD.weaken (fun _ _ _ _ => trivial), hN.warm hW⟩⟩ rfl rfl hl.1 rfl (lv_room (Nat.le_of_ble_eq_true rfl)) dX6_readInstruction_129 ⟨Nat.le_of_ble_eq_true rfl, Nat.le_of_ble_eq_true rfl⟩) hS (fun q _ h => hFc q h) hFc (fun u t H_77 locs ht hvm hw hB hz1 hk1 hS2 => ?_)
                  obtain ⟨hP1, -, hD1⟩ := hB
                  rw [ht] at hP1
                  replace hD := hD1.weaken (fun _ _ _ h => hFc _ h)
                  replace hP := hP1
                  replace hS := hS2
                  clear hP1 hD1 hS2 hFc hfc hz1 hk1 hvm ht
                  refine lv_goto (tgt := 299) hx hb dX6_readInstruction_132 (by decide) ?_
                  obtain ⟨h8, h9⟩ := ret_some hf
                  rw [h8]
                  exact W.vret hx hb hr (fun t ht hW => ⟨⟨(), rfl, trivial, by rw [ht]; exact hP, va_K.moved hW.alike hK, hD⟩, hS.F ht⟩) hS.2.2 dX6_readInstruction_299
            · skip
              rw [if_pos c_69] at hf
              refine lv_bipush (v := 16) hx hb dX6_readInstruction_106 (by decide) ?_
              refine lv_goto (tgt := 129) hx hb dX6_readInstruction_108 (by decide) ?_
              obtain ⟨z_78, _u, hfc, hf⟩ := cal_some hf
              have hFc := de_free hD hS hA
              refine va_callv (va_runV (As := [.int 16]) (rest := []) ⟨hx, hb, hml, hown, hts⟩ (de_X6_pass l dC dI cy a sh n H.size F z_11 h0 16 hfc) (cwV 1 hts gX6_readInstruction_X6_pass rfl rfl rfl (by decide +kernel) ⟨Nat.le_of_ble_eq_true rfl, Nat.le_of_ble_eq_true rfl⟩) ⟨fun a U g mk q => by obtain ⟨q0, q1, qP, qK, qD, qN⟩ := q; exact ⟨q0, q1, qP, va_K.moved (u := U) (U := U.calling g mk a) (Vm.Alike.refl U.vm) qK, qD, qN.same rfl⟩, va_recv hK hP (ci := 6) (q0 := h0) rfl (Wd_ob kg_1 sg_1 (by decide)), fun U hU hW => ⟨rfl, by rw [hU], by rw [hU]; exact hP, va_K.moved hW.alike hK, hD.weaken (fun _ _ _ _ => trivial), hN.warm hW⟩⟩ rfl rfl hl.1 rfl (lv_room (Nat.le_of_ble_eq_true rfl)) dX6_readInstruction_129 ⟨Nat.le_of_ble_eq_true rfl, Nat.le_of_ble_eq_true rfl⟩) hS (fun q _ h => hFc q h) hFc (fun u t H_79 locs ht hvm hw hB hz1 hk1 hS2 => ?_)
              obtain ⟨hP1, -, hD1⟩ := hB
              rw [ht] at hP1
              replace hD := hD1.weaken (fun _ _ _ h => hFc _ h)
              replace hP := hP1
              replace hS := hS2
              clear hP1 hD1 hS2 hFc hfc hz1 hk1 hvm ht
              refine lv_goto (tgt := 299) hx hb dX6_readInstruction_132 (by decide) ?_
              obtain ⟨h8, h9⟩ := ret_some hf
              rw [h8]
              exact W.vret hx hb hr (fun t ht hW => ⟨⟨(), rfl, trivial, by rw [ht]; exact hP, va_K.moved hW.alike hK, hD⟩, hS.F ht⟩) hS.2.2 dX6_readInstruction_299
          · skip
            rw [if_pos c_68] at hf
            refine lv_iconst (v := 1) hx hb dX6_readInstruction_96 (by decide) ?_
            refine lv_goto (tgt := 129) hx hb dX6_readInstruction_97 (by decide) ?_
            obtain ⟨z_80, _u, hfc, hf⟩ := cal_some hf
            have hFc := de_free hD hS hA
            refine va_callv (va_runV (As := [.int 1]) (rest := []) ⟨hx, hb, hml, hown, hts⟩ (de_X6_pass l dC dI cy a sh n H.size F z_11 h0 1 hfc) (cwV 1 hts gX6_readInstruction_X6_pass rfl rfl rfl (by decide +kernel) ⟨Nat.le_of_ble_eq_true rfl, Nat.le_of_ble_eq_true rfl⟩) ⟨fun a U g mk q => by obtain ⟨q0, q1, qP, qK, qD, qN⟩ := q; exact ⟨q0, q1, qP, va_K.moved (u := U) (U := U.calling g mk a) (Vm.Alike.refl U.vm) qK, qD, qN.same rfl⟩, va_recv hK hP (ci := 6) (q0 := h0) rfl (Wd_ob kg_1 sg_1 (by decide)), fun U hU hW => ⟨rfl, by rw [hU], by rw [hU]; exact hP, va_K.moved hW.alike hK, hD.weaken (fun _ _ _ _ => trivial), hN.warm hW⟩⟩ rfl rfl hl.1 rfl (lv_room (Nat.le_of_ble_eq_true rfl)) dX6_readInstruction_129 ⟨Nat.le_of_ble_eq_true rfl, Nat.le_of_ble_eq_true rfl⟩) hS (fun q _ h => hFc q h) hFc (fun u t H_81 locs ht hvm hw hB hz1 hk1 hS2 => ?_)
            obtain ⟨hP1, -, hD1⟩ := hB
            rw [ht] at hP1
            replace hD := hD1.weaken (fun _ _ _ h => hFc _ h)
            replace hP := hP1
            replace hS := hS2
            clear hP1 hD1 hS2 hFc hfc hz1 hk1 hvm ht
            refine lv_goto (tgt := 299) hx hb dX6_readInstruction_132 (by decide) ?_
            obtain ⟨h8, h9⟩ := ret_some hf
            rw [h8]
            exact W.vret hx hb hr (fun t ht hW => ⟨⟨(), rfl, trivial, by rw [ht]; exact hP, va_K.moved hW.alike hK, hD⟩, hS.F ht⟩) hS.2.2 dX6_readInstruction_299
    refine lv_icmp_lt (tgt := 79) hx hb dX6_readInstruction_38 (by decide) (fun c_82 => ?_) (fun c_82 => ?_)
    · skip
      rw [if_pos c_82] at hf
      exact B79 (z_7) ls H_9 locs ⟨lv_sub hl [0, 2] rfl, hP, hD, hS⟩ hf
    · skip
      rw [if_neg c_82] at hf
      refine lv_iload_n hx hb dX6_readInstruction_41 rfl (lv_at hl 0 rfl) ?_
      refine lv_iconst (v := 4) hx hb dX6_readInstruction_42 (by decide) ?_
      refine lv_icmp_gt (tgt := 79) hx hb dX6_readInstruction_43 (by decide) (fun c_83 => ?_) (fun c_83 => ?_)
      · skip
        rw [if_pos c_83] at hf
        exact B79 (z_7) ls H_9 locs ⟨lv_sub hl [0, 2] rfl, hP, hD, hS⟩ hf
      · skip
        rw [if_neg c_83] at hf
        refine lv_aload_n hx hb dX6_readInstruction_46 rfl (lv_at hl 2 rfl) ?_
        refine va_get (D := (dC, dI)) (ci := 6) (v := .int (z_7.1 h0 3)) (C := RX6) (T := TX6) (N := 9) hx hb hts iwd_X6_readInstruction_X6 hown hK hP h0 (Wd_ob kg_1 sg_1 (by decide)) rfl 3 (by decide) (hts _ md_X6_readInstruction_2) (fun _ h9 => h9) (fl_at (t := 0) rfl) dX6_readInstruction_47 ?_
        refine lv_topi (fun v_84 ev_84 => ?_)
        replace hf := lt_at ev_84 hf
        clear ev_84
        refine lv_istore_n (lv' := [(1, .int v_84), (2, .int r_8), (0, .ref (a h0))]) hx hb dX6_readInstruction_50 rfl hl (by decide) rfl (fun ls hl2 => ?_)
        replace hl := hl2
        clear hl2
        refine lv_aload_n hx hb dX6_readInstruction_51 rfl (lv_at hl 2 rfl) ?_
        obtain ⟨z_85, r_86, hfc, hf⟩ := cal_some hf
        have hFc := de_free hD hS hA
        refine va_calli (va_runV (As := []) (rest := []) ⟨hx, hb, hml, hown, hts⟩ (de_X6_readShort l dC dI cy a sh n H_9.size F z_7 h0 hfc) (cwV 0 hts gX6_readInstruction_X6_readShort rfl rfl rfl (by decide +kernel) ⟨Nat.le_of_ble_eq_true rfl, Nat.le_of_ble_eq_true rfl⟩) ⟨fun a U g mk q => by obtain ⟨q0, q1, qP, qK, qD, qN⟩ := q; exact ⟨q0, q1, qP, va_K.moved (u := U) (U := U.calling g mk a) (Vm.Alike.refl U.vm) qK, qD, qN.same rfl⟩, va_recv hK hP (ci := 6) (q0 := h0) rfl (Wd_ob kg_1 sg_1 (by decide)), fun U hU hW => ⟨rfl, by rw [hU], by rw [hU]; exact hP, va_K.moved hW.alike hK, hD.weaken (fun _ _ _ _ => trivial), hN.warm hW⟩⟩ rfl rfl hl.1 rfl (lv_room (Nat.le_of_ble_eq_true rfl)) dX6_readInstruction_52 ⟨Nat.le_of_ble_eq_true rfl, Nat.le_of_ble_eq_true rfl⟩) hS (fun q _ h => hFc q h) hFc (fun rr u t H_87 locs ht hvm hw hB hz1 hk1 hS2 => ?_)
        rw [hw]
        clear hw
        obtain ⟨hP1, -, hD1⟩ := hB
        rw [ht] at hP1
        replace hD := hD1.weaken (fun _ _ _ h => hFc _ h)
        replace hP := hP1
        replace hS := hS2
        clear hP1 hD1 hS2 hFc hfc hz1 hk1 hvm ht
        refine lv_aload_n hx hb dX6_readInstruction_55 rfl (lv_at hl 2 rfl) ?_
        refine va_get (D := (dC, dI)) (ci := 6) (v := .int (z_85.1 h0 7)) (C := RX6) (T := TX6) (N := 9) hx hb hts iwd_X6_readInstruction_X6 hown hK hP h0 (Wd_ob kg_1 sg_1 (by decide)) rfl 7 (by decide) (hts _ md_X6_readInstruction_3) (fun _ h9 => h9) (fl_at (t := 0) rfl) dX6_readInstruction_56 ?_
        refine lv_icmp_lt (tgt := 299) hx hb dX6_readInstruction_59 (by decide) (fun c_88 => ?_) (fun c_88 => ?_)
        · skip
          rw [if_pos c_88] at hf
          obtain ⟨h8, h9⟩ := ret_some hf
          rw [h8]
          exact W.vret hx hb hr (fun t ht hW => ⟨⟨(), rfl, trivial, by rw [ht]; exact hP, va_K.moved hW.alike hK, hD⟩, hS.F ht⟩) hS.2.2 dX6_readInstruction_299
        · skip
          rw [if_neg c_88] at hf
          refine lv_aload_n hx hb dX6_readInstruction_62 rfl (lv_at hl 2 rfl) ?_
          refine va_get (D := (dC, dI)) (ci := 6) (v := .int (z_85.1 h0 4)) (C := RX6) (T := TX6) (N := 9) hx hb hts iwd_X6_readInstruction_X6 hown hK hP h0 (Wd_ob kg_1 sg_1 (by decide)) rfl 4 (by decide) (hts _ md_X6_readInstruction_4) (fun _ h9 => h9) (fl_at (t := 0) rfl) dX6_readInstruction_63 ?_
          refine lv_if_eq (tgt := 299) hx hb dX6_readInstruction_66 (by decide) (fun c_89 => ?_) (fun c_89 => ?_)
          · skip
            rw [if_pos c_89] at hf
            obtain ⟨h8, h9⟩ := ret_some hf
            rw [h8]
            exact W.vret hx hb hr (fun t ht hW => ⟨⟨(), rfl, trivial, by rw [ht]; exact hP, va_K.moved hW.alike hK, hD⟩, hS.F ht⟩) hS.2.2 dX6_readInstruction_299
          · skip
            rw [if_neg c_89] at hf
            refine lv_aload_n hx hb dX6_readInstruction_69 rfl (lv_at hl 2 rfl) ?_
            refine lv_bipush (v := 13) hx hb dX6_readInstruction_70 (by decide) ?_
            refine lv_iload_n hx hb dX6_readInstruction_72 rfl (lv_at hl 0 rfl) ?_
            obtain ⟨z_90, _u, hfc, hf⟩ := cal_some hf
            have hFc := de_free hD hS hA
            refine va_callv (va_runV (As := [.int 13, .int v_84]) (rest := []) ⟨hx, hb, hml, hown, hts⟩ (de_X6_fail l dC dI cy a sh n H_87.size F z_85 h0 13 v_84 hfc) (cwV 2 hts gX6_readInstruction_X6_fail rfl rfl rfl (by decide +kernel) ⟨Nat.le_of_ble_eq_true rfl, Nat.le_of_ble_eq_true rfl⟩) ⟨fun a U g mk q => by obtain ⟨q0, q1, qP, qK, qD, qN⟩ := q; exact ⟨q0, q1, qP, va_K.moved (u := U) (U := U.calling g mk a) (Vm.Alike.refl U.vm) qK, qD, qN.same rfl⟩, va_recv hK hP (ci := 6) (q0 := h0) rfl (Wd_ob kg_1 sg_1 (by decide)), fun U hU hW => ⟨rfl, by rw [hU], by rw [hU]; exact hP, va_K.moved hW.alike hK, hD.weaken (fun _ _ _ _ => trivial), hN.warm hW⟩⟩ rfl rfl hl.1 rfl (lv_room (Nat.le_of_ble_eq_true rfl)) dX6_readInstruction_73 ⟨Nat.le_of_ble_eq_true rfl, Nat.le_of_ble_eq_true rfl⟩) hS (fun q _ h => hFc q h) hFc (fun u t H_91 locs ht hvm hw hB hz1 hk1 hS2 => ?_)
            obtain ⟨hP1, -, hD1⟩ := hB
            rw [ht] at hP1
            replace hD := hD1.weaken (fun _ _ _ h => hFc _ h)
            replace hP := hP1
            replace hS := hS2
            clear hP1 hD1 hS2 hFc hfc hz1 hk1 hvm ht
            refine lv_goto (tgt := 299) hx hb dX6_readInstruction_76 (by decide) ?_
            obtain ⟨h8, h9⟩ := ret_some hf
            rw [h8]
            exact W.vret hx hb hr (fun t ht hW => ⟨⟨(), rfl, trivial, by rw [ht]; exact hP, va_K.moved hW.alike hK, hD⟩, hS.F ht⟩) hS.2.2 dX6_readInstruction_299
  · skip
    rw [if_neg c_10] at hf
    refine lv_aload_n hx hb dX6_readInstruction_27 rfl (lv_at hl 2 rfl) ?_
    refine lv_iconst (v := 5) hx hb dX6_readInstruction_28 (by decide) ?_
    refine lv_iload_n hx hb dX6_readInstruction_29 rfl (lv_at hl 1 rfl) ?_
    obtain ⟨z_92, _u, hfc, hf⟩ := cal_some hf
    have hFc := de_free hD hS hA
    refine va_callv (va_runV (As := [.int 5, .int v_6]) (rest := []) ⟨hx, hb, hml, hown, hts⟩ (de_X6_fail l dC dI cy a sh n H_9.size F z_7 h0 5 v_6 hfc) (cwV 2 hts gX6_readInstruction_X6_fail rfl rfl rfl (by decide +kernel) ⟨Nat.le_of_ble_eq_true rfl, Nat.le_of_ble_eq_true rfl⟩) ⟨fun a U g mk q => by obtain ⟨q0, q1, qP, qK, qD, qN⟩ := q; exact ⟨q0, q1, qP, va_K.moved (u := U) (U := U.calling g mk a) (Vm.Alike.refl U.vm) qK, qD, qN.same rfl⟩, va_recv hK hP (ci := 6) (q0 := h0) rfl (Wd_ob kg_1 sg_1 (by decide)), fun U hU hW => ⟨rfl, by rw [hU], by rw [hU]; exact hP, va_K.moved hW.alike hK, hD.weaken (fun _ _ _ _ => trivial), hN.warm hW⟩⟩ rfl rfl hl.1 rfl (lv_room (Nat.le_of_ble_eq_true rfl)) dX6_readInstruction_30 ⟨Nat.le_of_ble_eq_true rfl, Nat.le_of_ble_eq_true rfl⟩) hS (fun q _ h => hFc q h) hFc (fun u t H_93 locs ht hvm hw hB hz1 hk1 hS2 => ?_)
    obtain ⟨hP1, -, hD1⟩ := hB
    rw [ht] at hP1
    replace hD := hD1.weaken (fun _ _ _ h => hFc _ h)
    replace hP := hP1
    replace hS := hS2
    clear hP1 hD1 hS2 hFc hfc hz1 hk1 hvm ht
    refine lv_goto (tgt := 299) hx hb dX6_readInstruction_33 (by decide) ?_
    obtain ⟨h8, h9⟩ := ret_some hf
    rw [h8]
    exact W.vret hx hb hr (fun t ht hW => ⟨⟨(), rfl, trivial, by rw [ht]; exact hP, va_K.moved hW.alike hK, hD⟩, hS.F ht⟩) hS.2.2 dX6_readInstruction_299

theorem md_X6_readStructures_1 : (.fieldLink RX6 17 "ResourceLedger$Reader" "p" "LResourceLedger$Program;" : Cond) ∈ wsX6_readStructures := List.mem_of_getElem? (i := 1) rfl
theorem iwd_X6_readStructures_X6 : ∀ w ∈ wsX60, w ∈ wsX6_readStructures := fun _ h => List.mem_cons_of_mem _ (List.mem_append_left _ (List.mem_append_right _ h))
theorem md_X6_readStructures_2 : (.fieldLink RX6 100 "ResourceLedger$Program" "ownStructures" "I" : Cond) ∈ wsX6_readStructures := List.mem_of_getElem? (i := 2) rfl
theorem iwd_X6_readStructures_X5 : ∀ w ∈ wsX50, w ∈ wsX6_readStructures := fun _ h => List.mem_cons_of_mem _ (List.mem_append_right _ h)
theorem md_X6_readStructures_3 : (.fieldLink RX6 28 "ResourceLedger$Reader" "judging" "Z" : Cond) ∈ wsX6_readStructures := List.mem_of_getElem? (i := 3) rfl
theorem md_X6_readStructures_5 : (.fieldLink RX6 21 "ResourceLedger$Reader" "fault" "I" : Cond) ∈ wsX6_readStructures := List.mem_of_getElem? (i := 5) rfl
theorem md_X6_readStructures_6 : (.fieldLink RX6 32 "ResourceLedger$Reader" "at" "I" : Cond) ∈ wsX6_readStructures := List.mem_of_getElem? (i := 6) rfl
theorem md_X6_readStructures_7 : (.fieldLink RX6 53 "ResourceLedger$Program" "typeCount" "I" : Cond) ∈ wsX6_readStructures := List.mem_of_getElem? (i := 7) rfl
theorem md_X6_readStructures_8 : (.fieldLink RX6 97 "ResourceLedger$Program" "number" "I" : Cond) ∈ wsX6_readStructures := List.mem_of_getElem? (i := 8) rfl
theorem md_X6_readStructures_4 : (.fieldLink RX6 103 "ResourceLedger$Program" "allStructures" "I" : Cond) ∈ wsX6_readStructures := List.mem_of_getElem? (i := 4) rfl
def fn_X6_readStructures_L37 (F : Nat) (sh : Nat → Nat × Nat) (n : Nat) (h0 : Nat) : Nat → St → Int32 → Option (St × Unit)
  | 0, _, _ => none
  | f_12 + 1, z_11, p_10 => lnk (z_11.2.2 h0 2) (fun k_13 => grd (okO sh n k_13 5) (if ((z_11.1 k_13 8) : Int32) ≤ p_10 then some (z_11, ()) else if ((z_11.1 h0 1) : Int32) = 0 then lnk (z_11.2.2 h0 2) (fun k_17 => grd (okO sh n k_17 5) (cal (fn_X5_setStructure F sh n z_11 k_17 p_10 1 (z_11.1 h0 3)) (fun z_18 _ => lnk (z_18.2.2 h0 2) (fun k_21 => cal (fn_X6_readNumber F sh n z_18 h0 0 15) (fun z_22 r_23 => grd (okO sh n k_21 5) (cal (fn_X5_setStructure F sh n z_22 k_21 p_10 0 r_23) (fun z_25 _ => cal (fn_X6_readNumber F sh n z_25 h0 1 16) (fun z_28 r_29 => lnk (z_28.2.2 h0 2) (fun k_31 => lnk (z_28.2.2 h0 2) (fun k_32 => grd (okO sh n k_32 5) (grd (okO sh n k_31 5) (cal (fn_X5_setStructure F sh n z_28 k_31 p_10 2 (z_28.1 k_32 4)) (fun z_34 _ => lnk (z_34.2.2 h0 2) (fun k_37 => grd (okO sh n k_37 5) (cal (fn_X5_setStructure F sh n z_34 k_37 p_10 3 r_29) (fun z_38 _ => lnk (z_38.2.2 h0 2) (fun k_41 => lnk (z_38.2.2 h0 2) (fun k_42 => grd (okO sh n k_42 5) (grd (okO sh n k_41 5) (cal (fn_X5_setStructure F sh n z_38 k_41 p_10 4 (z_38.1 k_42 2)) (fun z_44 _ => lnk (z_44.2.2 h0 2) (fun k_47 => grd (okO sh n k_47 5) (cal (fn_X5_setStructure F sh n z_44 k_47 p_10 5 p_10) (fun z_48 _ => cal (fn_X6_readTypes F sh n z_48 h0 r_29 0) (fun z_51 _ => fn_X6_readStructures_L37 F sh n h0 f_12 z_51 (p_10 + 1)))))))))))))))))))))))))) else some (z_11, ())))
theorem fn_X6_readStructures_L37_s {F : Nat} {sh : Nat → Nat × Nat} {n : Nat} {h0 : Nat} {f_12 : Nat} {z_11 : St} {p_10 : Int32} {y : St × Unit} (h : fn_X6_readStructures_L37 F sh n h0 (f_12 + 1) z_11 p_10 = some y) : (lnk (z_11.2.2 h0 2) (fun k_13 => grd (okO sh n k_13 5) (if ((z_11.1 k_13 8) : Int32) ≤ p_10 then some (z_11, ()) else if ((z_11.1 h0 1) : Int32) = 0 then lnk (z_11.2.2 h0 2) (fun k_17 => grd (okO sh n k_17 5) (cal (fn_X5_setStructure F sh n z_11 k_17 p_10 1 (z_11.1 h0 3)) (fun z_18 _ => lnk (z_18.2.2 h0 2) (fun k_21 => cal (fn_X6_readNumber F sh n z_18 h0 0 15) (fun z_22 r_23 => grd (okO sh n k_21 5) (cal (fn_X5_setStructure F sh n z_22 k_21 p_10 0 r_23) (fun z_25 _ => cal (fn_X6_readNumber F sh n z_25 h0 1 16) (fun z_28 r_29 => lnk (z_28.2.2 h0 2) (fun k_31 => lnk (z_28.2.2 h0 2) (fun k_32 => grd (okO sh n k_32 5) (grd (okO sh n k_31 5) (cal (fn_X5_setStructure F sh n z_28 k_31 p_10 2 (z_28.1 k_32 4)) (fun z_34 _ => lnk (z_34.2.2 h0 2) (fun k_37 => grd (okO sh n k_37 5) (cal (fn_X5_setStructure F sh n z_34 k_37 p_10 3 r_29) (fun z_38 _ => lnk (z_38.2.2 h0 2) (fun k_41 => lnk (z_38.2.2 h0 2) (fun k_42 => grd (okO sh n k_42 5) (grd (okO sh n k_41 5) (cal (fn_X5_setStructure F sh n z_38 k_41 p_10 4 (z_38.1 k_42 2)) (fun z_44 _ => lnk (z_44.2.2 h0 2) (fun k_47 => grd (okO sh n k_47 5) (cal (fn_X5_setStructure F sh n z_44 k_47 p_10 5 p_10) (fun z_48 _ => cal (fn_X6_readTypes F sh n z_48 h0 r_29 0) (fun z_51 _ => fn_X6_readStructures_L37 F sh n h0 f_12 z_51 (p_10 + 1)))))))))))))))))))))))))) else some (z_11, ())))) = some y := h
def fn_X6_readStructures_B35 (F : Nat) (sh : Nat → Nat × Nat) (n : Nat) (h0 : Nat) (z_9 : St) : Option (St × Unit) := fn_X6_readStructures_L37 F sh n h0 F z_9 0
theorem fn_X6_readStructures_B35_s {F : Nat} {sh : Nat → Nat × Nat} {n : Nat} {h0 : Nat} {z_9 : St} {y : St × Unit} (h : fn_X6_readStructures_B35 F sh n h0 z_9 = some y) : (fn_X6_readStructures_L37 F sh n h0 F z_9 0) = some y := h
def fn_X6_readStructures (F : Nat) (sh : Nat → Nat × Nat) (n : Nat) (z : St) (h0 : Nat) : Option (St × Unit) := grd (okO sh n h0 6) (lnk (z.2.2 h0 2) (fun k_2 => cal (fn_X6_readNumber F sh n z h0 0 32) (fun z_3 r_4 => grd (okO sh n k_2 5) (lt_ (si z_3 k_2 8 r_4) (fun z_8 => if ((z_8.1 h0 4) : Int32) = 0 then lnk (z_8.2.2 h0 2) (fun k_54 => lnk (z_8.2.2 h0 2) (fun k_55 => grd (okO sh n k_55 5) (grd (okO sh n k_54 5) (lt_ (si z_8 k_54 9 (z_8.1 k_55 8)) (fun z_59 => fn_X6_readStructures_B35 F sh n h0 z_59 ))))) else fn_X6_readStructures_B35 F sh n h0 z_8 )))))
set_option maxHeartbeats 4000000 in
set_option maxRecDepth 100000 in
theorem de_X6_readStructures (l : Launch) (dC : Nat → ClassId) (dI : Nat → Nat → Nat) (cy : Nat → ClassId) (a : Nat → Nat) (sh : Nat → Nat × Nat) (n sz : Nat) (F : Nat) (z : St) (h0 : Nat) {z8 : St} {r8 : Unit} (hf : fn_X6_readStructures F sh n z h0 = some (z8, r8)) : Met l yX6_readStructures wsX6_readStructures ({ frames := 3, cells := 0, slots := 0, locals := 71 }) (va_Pc [.ref (a h0)] (fun U => U.heap.size = sz ∧ va_P (dC, dI) vwCl (Wd cy a sh n z) U.heap ∧ va_K (dC, dI) vwCl (TYS cy) U ∧ va_D (fun _ => True) (Wd cy a sh n z) ∧ NK U)) (va_Qv (fun u : Unit => True) (fun u t => va_P (dC, dI) vwCl (Wd cy a sh n z8) t.heap ∧ va_K (dC, dI) vwCl (TYS cy) t ∧ va_D (va_A (Wd cy a sh n z) sz) (Wd cy a sh n z8)) (va_A (Wd cy a sh n z) sz)) 0 0 (va_A (Wd cy a sh n z) sz) := by
  refine Met.ofW (cc := cX6_readStructures) (maxL := 3) (ret := none) (by decide) rfl ?_
  intro p e s m args below meth c s₁ B hml hv
  obtain ⟨rfl, hsz, hP, hK, hD0, hN⟩ := hv
  have hx := B.exec
  have hb := B.bytes
  have hr := B.returns
  have hts := atoms_spec (ws := wsX6_readStructures) B.pre
  have hown : s.vm.findClass RX6 = some m.cls := findClass_of_methodNamed B.named
  have hlocks := B.notSynchronized
  subst hsz
  have hD := hD0.self (sz := s.heap.size)
  clear hD0
  generalize hAe : va_A (Wd cy a sh n z) s.heap.size = A at hD ⊢
  have hA : ∀ q : Nat, s.heap.size ≤ q → A q := fun q h => by rw [← hAe]; exact Or.inr h
  clear hAe
  have hS : va_S A s.heap s.heap [] := va_S.rf
  have hl := lv_entry ([.ref (a h0)]) (n := 3) (Nat.le_of_ble_eq_true rfl)
  rw [lg_entry_eq]
  generalize (lg_sl ([.ref (a h0)]) ++ List.replicate (3 - (lg_sl ([.ref (a h0)])).length) Slot.unset).toArray = ls at hl ⊢
  replace hl : lv_has ls 3 [(0, .ref (a h0))] := hl
  unfold fn_X6_readStructures at hf
  refine de_start hS hP (fun H locs hS hP => ?_)
  refine lv_aload_n hx hb dX6_readStructures_0 rfl (lv_at hl 0 rfl) ?_
  obtain ⟨g_1, hf⟩ := grd_some hf
  obtain ⟨kg_1, sg_1⟩ := okO_at g_1
  obtain ⟨k_2, ek_2, hf⟩ := lnk_some hf
  refine va_get (D := (dC, dI)) (ci := 6) (v := .ref (a k_2)) (C := RX6) (T := TX6) (N := 9) hx hb hts iwd_X6_readStructures_X6 hown hK hP h0 (Wd_ob kg_1 sg_1 (by decide)) rfl 2 (by decide) (hts _ md_X6_readStructures_1) (fun _ h9 => h9) (fl_q rfl ek_2) dX6_readStructures_1 ?_
  refine lv_aload_n hx hb dX6_readStructures_4 rfl (lv_at hl 0 rfl) ?_
  refine lv_iconst (v := 0) hx hb dX6_readStructures_5 (by decide) ?_
  refine lv_bipush (v := 32) hx hb dX6_readStructures_6 (by decide) ?_
  obtain ⟨z_3, r_4, hfc, hf⟩ := cal_some hf
  have hFc := de_free hD hS hA
  refine va_calli (va_runV (As := [.int 0, .int 32]) (rest := [.ref (a k_2)]) ⟨hx, hb, hml, hown, hts⟩ (de_X6_readNumber l dC dI cy a sh n H.size F z h0 0 32 hfc) (cwV 2 hts gX6_readStructures_X6_readNumber rfl rfl rfl (by decide +kernel) ⟨Nat.le_of_ble_eq_true rfl, Nat.le_of_ble_eq_true rfl⟩) ⟨fun a U g mk q => by obtain ⟨q0, q1, qP, qK, qD, qN⟩ := q; exact ⟨q0, q1, qP, va_K.moved (u := U) (U := U.calling g mk a) (Vm.Alike.refl U.vm) qK, qD, qN.same rfl⟩, va_recv hK hP (ci := 6) (q0 := h0) rfl (Wd_ob kg_1 sg_1 (by decide)), fun U hU hW => ⟨rfl, by rw [hU], by rw [hU]; exact hP, va_K.moved hW.alike hK, hD.weaken (fun _ _ _ _ => trivial), hN.warm hW⟩⟩ rfl rfl hl.1 rfl (lv_room (Nat.le_of_ble_eq_true rfl)) dX6_readStructures_8 ⟨Nat.le_of_ble_eq_true rfl, Nat.le_of_ble_eq_true rfl⟩) hS (fun q _ h => hFc q h) hFc (fun rr u t H_5 locs ht hvm hw hB hz1 hk1 hS2 => ?_)
  rw [hw]
  clear hw
  obtain ⟨hP1, -, hD1⟩ := hB
  rw [ht] at hP1
  replace hD := hD1.weaken (fun _ _ _ h => hFc _ h)
  replace hP := hP1
  replace hS := hS2
  clear hP1 hD1 hS2 hFc hfc hz1 hk1 hvm ht
  obtain ⟨g_6, hf⟩ := grd_some hf
  obtain ⟨kg_6, sg_6⟩ := okO_at g_6
  refine va_put (D := (dC, dI)) (ci := 5) (v := .int r_4) (ty := .int) (C := RX5) (T := TX5) (N := 15) hx hb hts iwd_X6_readStructures_X5 tyX5 tyX5_ok nmX5 hown hK hP hD hS k_2 (Wd_ob kg_6 sg_6 (by decide)) rfl 8 (by decide) (hts _ md_X6_readStructures_2) (fun _ h9 => h9) rfl (by decide +kernel) rfl rfl (by rw [fl_len]; decide) dX6_readStructures_11 (fun H_7 locs hP2 hD2 hS2 => ?_)
  rw [Wd_si sg_6 (by decide) rfl] at hP2 hD2
  obtain ⟨z_8, ez_8⟩ : ∃ w, w = si z_3 k_2 8 r_4 := ⟨_, rfl⟩
  rw [← ez_8] at hP2 hD2
  replace hf := lt_at ez_8 hf
  clear ez_8
  replace hP := hP2
  replace hD := hD2
  replace hS := hS2
  clear hP2 hD2 hS2
  refine lv_aload_n hx hb dX6_readStructures_14 rfl (lv_at hl 0 rfl) ?_
  refine va_get (D := (dC, dI)) (ci := 6) (v := .int (z_8.1 h0 4)) (C := RX6) (T := TX6) (N := 9) hx hb hts iwd_X6_readStructures_X6 hown hK hP h0 (Wd_ob kg_1 sg_1 (by decide)) rfl 4 (by decide) (hts _ md_X6_readStructures_3) (fun _ h9 => h9) (fl_at (t := 0) rfl) dX6_readStructures_15 ?_
  refine de_cut (h := 35) (fun (x : St) => []) (fun x ls H locs => lv_has ls 3 [(0, .ref (a h0))] ∧ va_P (dC, dI) vwCl (Wd cy a sh n x) H ∧ va_D A (Wd cy a sh n x) ∧ va_S A s.heap H locs) (fun x => fn_X6_readStructures_B35 F sh n h0 x) (z8, r8) ?_ (fun B35 => ?_)
  · intro x ls H locs hI hf
    obtain ⟨z_9, ez⟩ : ∃ w, w = x := ⟨_, rfl⟩
    subst ez
    obtain ⟨hl2, hP2, hD2, hS2⟩ := hI
    replace hl : lv_has ls 3 [(0, .ref (a h0))] := hl2
    replace hP := hP2
    replace hD := hD2
    replace hS := hS2
    clear hl2 hP2 hD2 hS2
    replace hf := fn_X6_readStructures_B35_s hf
    refine W.eq (g2 := F0 m 35 ls []) rfl ?_
    refine lv_iconst (v := 0) hx hb dX6_readStructures_35 (by decide) ?_
    refine lv_istore_n (lv' := [(1, .int 0), (0, .ref (a h0))]) hx hb dX6_readStructures_36 rfl hl (by decide) rfl (fun ls hl2 => ?_)
    replace hl := hl2
    clear hl2
    have hl0 : lv_has ls 3 [(1, .int 0), (0, .ref (a h0))] := lv_sub hl [0, 1] rfl
    refine de_loop (h := 37) (fun (x : St × Int32) ls H locs => lv_has ls 3 [(1, .int x.2), (0, .ref (a h0))] ∧ va_P (dC, dI) vwCl (Wd cy a sh n x.1) H ∧ va_D A (Wd cy a sh n x.1) ∧ va_S A s.heap H locs) (fun f x => fn_X6_readStructures_L37 F sh n h0 f x.1 x.2) (z8, r8) ?_ (fun _ => rfl) F (z_9, 0) ls H locs ⟨hl0, hP, hD, hS⟩ hf
    intro f_12 x ls H locs ih37 hI hf
    obtain ⟨z_11, p_10⟩ := x
    obtain ⟨hl2, hP2, hD2, hS2⟩ := hI
    replace hl : lv_has ls 3 [(1, .int p_10), (0, .ref (a h0))] := hl2
    replace hP := hP2
    replace hD := hD2
    replace hS := hS2
    clear hl2 hP2 hD2 hS2 hl0
    replace hf := fn_X6_readStructures_L37_s hf
    refine lv_iload_n hx hb dX6_readStructures_37 rfl (lv_at hl 0 rfl) ?_
    refine lv_aload_n hx hb dX6_readStructures_38 rfl (lv_at hl 1 rfl) ?_
    obtain ⟨k_13, ek_13, hf⟩ := lnk_some hf
    refine va_get (D := (dC, dI)) (ci := 6) (v := .ref (a k_13)) (C := RX6) (T := TX6) (N := 9) hx hb hts iwd_X6_readStructures_X6 hown hK hP h0 (Wd_ob kg_1 sg_1 (by decide)) rfl 2 (by decide) (hts _ md_X6_readStructures_1) (fun _ h9 => h9) (fl_q rfl ek_13) dX6_readStructures_39 ?_
    obtain ⟨g_14, hf⟩ := grd_some hf
    obtain ⟨kg_14, sg_14⟩ := okO_at g_14
    refine va_get (D := (dC, dI)) (ci := 5) (v := .int (z_11.1 k_13 8)) (C := RX5) (T := TX5) (N := 15) hx hb hts iwd_X6_readStructures_X5 hown hK hP k_13 (Wd_ob kg_14 sg_14 (by decide)) rfl 8 (by decide) (hts _ md_X6_readStructures_2) (fun _ h9 => h9) (fl_at (t := 0) rfl) dX6_readStructures_42 ?_
    refine lv_icmp_ge (tgt := 156) hx hb dX6_readStructures_45 (by decide) (fun c_15 => ?_) (fun c_15 => ?_)
    · skip
      rw [if_pos c_15] at hf
      obtain ⟨h8, h9⟩ := ret_some hf
      rw [h8]
      exact W.vret hx hb hr (fun t ht hW => ⟨⟨(), rfl, trivial, by rw [ht]; exact hP, va_K.moved hW.alike hK, hD⟩, hS.F ht⟩) hS.2.2 dX6_readStructures_156
    · skip
      rw [if_neg c_15] at hf
      refine lv_aload_n hx hb dX6_readStructures_48 rfl (lv_at hl 1 rfl) ?_
      refine va_get (D := (dC, dI)) (ci := 6) (v := .int (z_11.1 h0 1)) (C := RX6) (T := TX6) (N := 9) hx hb hts iwd_X6_readStructures_X6 hown hK hP h0 (Wd_ob kg_1 sg_1 (by decide)) rfl 1 (by decide) (hts _ md_X6_readStructures_5) (fun _ h9 => h9) (fl_at (t := 0) rfl) dX6_readStructures_49 ?_
      refine lv_if_ne (tgt := 156) hx hb dX6_readStructures_52 (by decide) (fun c_16 => ?_) (fun c_16 => ?_)
      · skip
        rw [if_neg c_16] at hf
        obtain ⟨h8, h9⟩ := ret_some hf
        rw [h8]
        exact W.vret hx hb hr (fun t ht hW => ⟨⟨(), rfl, trivial, by rw [ht]; exact hP, va_K.moved hW.alike hK, hD⟩, hS.F ht⟩) hS.2.2 dX6_readStructures_156
      · skip
        rw [if_pos c_16] at hf
        refine lv_aload_n hx hb dX6_readStructures_55 rfl (lv_at hl 1 rfl) ?_
        obtain ⟨k_17, ek_17, hf⟩ := lnk_some hf
        refine va_get (D := (dC, dI)) (ci := 6) (v := .ref (a k_17)) (C := RX6) (T := TX6) (N := 9) hx hb hts iwd_X6_readStructures_X6 hown hK hP h0 (Wd_ob kg_1 sg_1 (by decide)) rfl 2 (by decide) (hts _ md_X6_readStructures_1) (fun _ h9 => h9) (fl_q rfl ek_17) dX6_readStructures_56 ?_
        refine lv_iload_n hx hb dX6_readStructures_59 rfl (lv_at hl 0 rfl) ?_
        refine lv_iconst (v := 1) hx hb dX6_readStructures_60 (by decide) ?_
        refine lv_aload_n hx hb dX6_readStructures_61 rfl (lv_at hl 1 rfl) ?_
        refine va_get (D := (dC, dI)) (ci := 6) (v := .int (z_11.1 h0 3)) (C := RX6) (T := TX6) (N := 9) hx hb hts iwd_X6_readStructures_X6 hown hK hP h0 (Wd_ob kg_1 sg_1 (by decide)) rfl 3 (by decide) (hts _ md_X6_readStructures_6) (fun _ h9 => h9) (fl_at (t := 0) rfl) dX6_readStructures_62 ?_
        obtain ⟨g_19, hf⟩ := grd_some hf
        obtain ⟨kg_19, sg_19⟩ := okO_at g_19
        obtain ⟨z_18, _u, hfc, hf⟩ := cal_some hf
        have hFc := de_free hD hS hA
        refine va_callv (va_runV (As := [.int p_10, .int 1, .int (z_11.1 h0 3)]) (rest := []) ⟨hx, hb, hml, hown, hts⟩ (de_X5_setStructure l dC dI cy a sh n H.size F z_11 k_17 p_10 1 (z_11.1 h0 3) hfc) (cwV 3 hts gX6_readStructures_X5_setStructure rfl rfl rfl (by decide +kernel) ⟨Nat.le_of_ble_eq_true rfl, Nat.le_of_ble_eq_true rfl⟩) ⟨fun a U g mk q => by obtain ⟨q0, q1, qP, qK, qD, qN⟩ := q; exact ⟨q0, q1, qP, va_K.moved (u := U) (U := U.calling g mk a) (Vm.Alike.refl U.vm) qK, qD, qN.same rfl⟩, va_recv hK hP (ci := 5) (q0 := k_17) rfl (Wd_ob kg_19 sg_19 (by decide)), fun U hU hW => ⟨rfl, by rw [hU], by rw [hU]; exact hP, va_K.moved hW.alike hK, hD.weaken (fun _ _ _ _ => trivial), hN.warm hW⟩⟩ rfl rfl hl.1 rfl (lv_room (Nat.le_of_ble_eq_true rfl)) dX6_readStructures_65 ⟨Nat.le_of_ble_eq_true rfl, Nat.le_of_ble_eq_true rfl⟩) hS (fun q _ h => hFc q h) hFc (fun u t H_20 locs ht hvm hw hB hz1 hk1 hS2 => ?_)
        obtain ⟨hP1, -, hD1⟩ := hB
        rw [ht] at hP1
        replace hD := hD1.weaken (fun _ _ _ h => hFc _ h)
        replace hP := hP1
        replace hS := hS2
        clear hP1 hD1 hS2 hFc hfc hz1 hk1 hvm ht
        refine lv_aload_n hx hb dX6_readStructures_68 rfl (lv_at hl 1 rfl) ?_
        obtain ⟨k_21, ek_21, hf⟩ := lnk_some hf
        refine va_get (D := (dC, dI)) (ci := 6) (v := .ref (a k_21)) (C := RX6) (T := TX6) (N := 9) hx hb hts iwd_X6_readStructures_X6 hown hK hP h0 (Wd_ob kg_1 sg_1 (by decide)) rfl 2 (by decide) (hts _ md_X6_readStructures_1) (fun _ h9 => h9) (fl_q rfl ek_21) dX6_readStructures_69 ?_
        refine lv_iload_n hx hb dX6_readStructures_72 rfl (lv_at hl 0 rfl) ?_
        refine lv_iconst (v := 0) hx hb dX6_readStructures_73 (by decide) ?_
        refine lv_aload_n hx hb dX6_readStructures_74 rfl (lv_at hl 1 rfl) ?_
        refine lv_iconst (v := 0) hx hb dX6_readStructures_75 (by decide) ?_
        refine lv_bipush (v := 15) hx hb dX6_readStructures_76 (by decide) ?_
        obtain ⟨z_22, r_23, hfc, hf⟩ := cal_some hf
        have hFc := de_free hD hS hA
        refine va_calli (va_runV (As := [.int 0, .int 15]) (rest := [.int 0, .int p_10, .ref (a k_21)]) ⟨hx, hb, hml, hown, hts⟩ (de_X6_readNumber l dC dI cy a sh n H_20.size F z_18 h0 0 15 hfc) (cwV 2 hts gX6_readStructures_X6_readNumber rfl rfl rfl (by decide +kernel) ⟨Nat.le_of_ble_eq_true rfl, Nat.le_of_ble_eq_true rfl⟩) ⟨fun a U g mk q => by obtain ⟨q0, q1, qP, qK, qD, qN⟩ := q; exact ⟨q0, q1, qP, va_K.moved (u := U) (U := U.calling g mk a) (Vm.Alike.refl U.vm) qK, qD, qN.same rfl⟩, va_recv hK hP (ci := 6) (q0 := h0) rfl (Wd_ob kg_1 sg_1 (by decide)), fun U hU hW => ⟨rfl, by rw [hU], by rw [hU]; exact hP, va_K.moved hW.alike hK, hD.weaken (fun _ _ _ _ => trivial), hN.warm hW⟩⟩ rfl rfl hl.1 rfl (lv_room (Nat.le_of_ble_eq_true rfl)) dX6_readStructures_78 ⟨Nat.le_of_ble_eq_true rfl, Nat.le_of_ble_eq_true rfl⟩) hS (fun q _ h => hFc q h) hFc (fun rr u t H_24 locs ht hvm hw hB hz1 hk1 hS2 => ?_)
        rw [hw]
        clear hw
        obtain ⟨hP1, -, hD1⟩ := hB
        rw [ht] at hP1
        replace hD := hD1.weaken (fun _ _ _ h => hFc _ h)
        replace hP := hP1
        replace hS := hS2
        clear hP1 hD1 hS2 hFc hfc hz1 hk1 hvm ht
        obtain ⟨g_26, hf⟩ := grd_some hf
        obtain ⟨kg_26, sg_26⟩ := okO_at g_26
        obtain ⟨z_25, _u, hfc, hf⟩ := cal_some hf
        have hFc := de_free hD hS hA
        refine va_callv (va_runV (As := [.int p_10, .int 0, .int r_23]) (rest := []) ⟨hx, hb, hml, hown, hts⟩ (de_X5_setStructure l dC dI cy a sh n H_24.size F z_22 k_21 p_10 0 r_23 hfc) (cwV 3 hts gX6_readStructures_X5_setStructure rfl rfl rfl (by decide +kernel) ⟨Nat.le_of_ble_eq_true rfl, Nat.le_of_ble_eq_true rfl⟩) ⟨fun a U g mk q => by obtain ⟨q0, q1, qP, qK, qD, qN⟩ := q; exact ⟨q0, q1, qP, va_K.moved (u := U) (U := U.calling g mk a) (Vm.Alike.refl U.vm) qK, qD, qN.same rfl⟩, va_recv hK hP (ci := 5) (q0 := k_21) rfl (Wd_ob kg_26 sg_26 (by decide)), fun U hU hW => ⟨rfl, by rw [hU], by rw [hU]; exact hP, va_K.moved hW.alike hK, hD.weaken (fun _ _ _ _ => trivial), hN.warm hW⟩⟩ rfl rfl hl.1 rfl (lv_room (Nat.le_of_ble_eq_true rfl)) dX6_readStructures_81 ⟨Nat.le_of_ble_eq_true rfl, Nat.le_of_ble_eq_true rfl⟩) hS (fun q _ h => hFc q h) hFc (fun u t H_27 locs ht hvm hw hB hz1 hk1 hS2 => ?_)
        obtain ⟨hP1, -, hD1⟩ := hB
        rw [ht] at hP1
        replace hD := hD1.weaken (fun _ _ _ h => hFc _ h)
        replace hP := hP1
        replace hS := hS2
        clear hP1 hD1 hS2 hFc hfc hz1 hk1 hvm ht
        refine lv_aload_n hx hb dX6_readStructures_84 rfl (lv_at hl 1 rfl) ?_
        refine lv_iconst (v := 1) hx hb dX6_readStructures_85 (by decide) ?_
        refine lv_bipush (v := 16) hx hb dX6_readStructures_86 (by decide) ?_
        obtain ⟨z_28, r_29, hfc, hf⟩ := cal_some hf
        have hFc := de_free hD hS hA
        refine va_calli (va_runV (As := [.int 1, .int 16]) (rest := []) ⟨hx, hb, hml, hown, hts⟩ (de_X6_readNumber l dC dI cy a sh n H_27.size F z_25 h0 1 16 hfc) (cwV 2 hts gX6_readStructures_X6_readNumber rfl rfl rfl (by decide +kernel) ⟨Nat.le_of_ble_eq_true rfl, Nat.le_of_ble_eq_true rfl⟩) ⟨fun a U g mk q => by obtain ⟨q0, q1, qP, qK, qD, qN⟩ := q; exact ⟨q0, q1, qP, va_K.moved (u := U) (U := U.calling g mk a) (Vm.Alike.refl U.vm) qK, qD, qN.same rfl⟩, va_recv hK hP (ci := 6) (q0 := h0) rfl (Wd_ob kg_1 sg_1 (by decide)), fun U hU hW => ⟨rfl, by rw [hU], by rw [hU]; exact hP, va_K.moved hW.alike hK, hD.weaken (fun _ _ _ _ => trivial), hN.warm hW⟩⟩ rfl rfl hl.1 rfl (lv_room (Nat.le_of_ble_eq_true rfl)) dX6_readStructures_88 ⟨Nat.le_of_ble_eq_true rfl, Nat.le_of_ble_eq_true rfl⟩) hS (fun q _ h => hFc q h) hFc (fun rr u t H_30 locs ht hvm hw hB hz1 hk1 hS2 => ?_)
        rw [hw]
        clear hw
        obtain ⟨hP1, -, hD1⟩ := hB
        rw [ht] at hP1
        replace hD := hD1.weaken (fun _ _ _ h => hFc _ h)
        replace hP := hP1
        replace hS := hS2
        clear hP1 hD1 hS2 hFc hfc hz1 hk1 hvm ht
        refine lv_istore_n (lv' := [(2, .int r_29), (1, .int p_10), (0, .ref (a h0))]) hx hb dX6_readStructures_91 rfl hl (by decide) rfl (fun ls hl2 => ?_)
        replace hl := hl2
        clear hl2
        refine lv_aload_n hx hb dX6_readStructures_92 rfl (lv_at hl 2 rfl) ?_
        obtain ⟨k_31, ek_31, hf⟩ := lnk_some hf
        refine va_get (D := (dC, dI)) (ci := 6) (v := .ref (a k_31)) (C := RX6) (T := TX6) (N := 9) hx hb hts iwd_X6_readStructures_X6 hown hK hP h0 (Wd_ob kg_1 sg_1 (by decide)) rfl 2 (by decide) (hts _ md_X6_readStructures_1) (fun _ h9 => h9) (fl_q rfl ek_31) dX6_readStructures_93 ?_
        refine lv_iload_n hx hb dX6_readStructures_96 rfl (lv_at hl 1 rfl) ?_
        refine lv_iconst (v := 2) hx hb dX6_readStructures_97 (by decide) ?_
        refine lv_aload_n hx hb dX6_readStructures_98 rfl (lv_at hl 2 rfl) ?_
        obtain ⟨k_32, ek_32, hf⟩ := lnk_some hf
        refine va_get (D := (dC, dI)) (ci := 6) (v := .ref (a k_32)) (C := RX6) (T := TX6) (N := 9) hx hb hts iwd_X6_readStructures_X6 hown hK hP h0 (Wd_ob kg_1 sg_1 (by decide)) rfl 2 (by decide) (hts _ md_X6_readStructures_1) (fun _ h9 => h9) (fl_q rfl ek_32) dX6_readStructures_99 ?_
        obtain ⟨g_33, hf⟩ := grd_some hf
        obtain ⟨kg_33, sg_33⟩ := okO_at g_33
        refine va_get (D := (dC, dI)) (ci := 5) (v := .int (z_28.1 k_32 4)) (C := RX5) (T := TX5) (N := 15) hx hb hts iwd_X6_readStructures_X5 hown hK hP k_32 (Wd_ob kg_33 sg_33 (by decide)) rfl 4 (by decide) (hts _ md_X6_readStructures_7) (fun _ h9 => h9) (fl_at (t := 0) rfl) dX6_readStructures_102 ?_
        obtain ⟨g_35, hf⟩ := grd_some hf
        obtain ⟨kg_35, sg_35⟩ := okO_at g_35
        obtain ⟨z_34, _u, hfc, hf⟩ := cal_some hf
        have hFc := de_free hD hS hA
        refine va_callv (va_runV (As := [.int p_10, .int 2, .int (z_28.1 k_32 4)]) (rest := []) ⟨hx, hb, hml, hown, hts⟩ (de_X5_setStructure l dC dI cy a sh n H_30.size F z_28 k_31 p_10 2 (z_28.1 k_32 4) hfc) (cwV 3 hts gX6_readStructures_X5_setStructure rfl rfl rfl (by decide +kernel) ⟨Nat.le_of_ble_eq_true rfl, Nat.le_of_ble_eq_true rfl⟩) ⟨fun a U g mk q => by obtain ⟨q0, q1, qP, qK, qD, qN⟩ := q; exact ⟨q0, q1, qP, va_K.moved (u := U) (U := U.calling g mk a) (Vm.Alike.refl U.vm) qK, qD, qN.same rfl⟩, va_recv hK hP (ci := 5) (q0 := k_31) rfl (Wd_ob kg_35 sg_35 (by decide)), fun U hU hW => ⟨rfl, by rw [hU], by rw [hU]; exact hP, va_K.moved hW.alike hK, hD.weaken (fun _ _ _ _ => trivial), hN.warm hW⟩⟩ rfl rfl hl.1 rfl (lv_room (Nat.le_of_ble_eq_true rfl)) dX6_readStructures_105 ⟨Nat.le_of_ble_eq_true rfl, Nat.le_of_ble_eq_true rfl⟩) hS (fun q _ h => hFc q h) hFc (fun u t H_36 locs ht hvm hw hB hz1 hk1 hS2 => ?_)
        obtain ⟨hP1, -, hD1⟩ := hB
        rw [ht] at hP1
        replace hD := hD1.weaken (fun _ _ _ h => hFc _ h)
        replace hP := hP1
        replace hS := hS2
        clear hP1 hD1 hS2 hFc hfc hz1 hk1 hvm ht
        refine lv_aload_n hx hb dX6_readStructures_108 rfl (lv_at hl 2 rfl) ?_
        obtain ⟨k_37, ek_37, hf⟩ := lnk_some hf
        refine va_get (D := (dC, dI)) (ci := 6) (v := .ref (a k_37)) (C := RX6) (T := TX6) (N := 9) hx hb hts iwd_X6_readStructures_X6 hown hK hP h0 (Wd_ob kg_1 sg_1 (by decide)) rfl 2 (by decide) (hts _ md_X6_readStructures_1) (fun _ h9 => h9) (fl_q rfl ek_37) dX6_readStructures_109 ?_
        refine lv_iload_n hx hb dX6_readStructures_112 rfl (lv_at hl 1 rfl) ?_
        refine lv_iconst (v := 3) hx hb dX6_readStructures_113 (by decide) ?_
        refine lv_iload_n hx hb dX6_readStructures_114 rfl (lv_at hl 0 rfl) ?_
        obtain ⟨g_39, hf⟩ := grd_some hf
        obtain ⟨kg_39, sg_39⟩ := okO_at g_39
        obtain ⟨z_38, _u, hfc, hf⟩ := cal_some hf
        have hFc := de_free hD hS hA
        refine va_callv (va_runV (As := [.int p_10, .int 3, .int r_29]) (rest := []) ⟨hx, hb, hml, hown, hts⟩ (de_X5_setStructure l dC dI cy a sh n H_36.size F z_34 k_37 p_10 3 r_29 hfc) (cwV 3 hts gX6_readStructures_X5_setStructure rfl rfl rfl (by decide +kernel) ⟨Nat.le_of_ble_eq_true rfl, Nat.le_of_ble_eq_true rfl⟩) ⟨fun a U g mk q => by obtain ⟨q0, q1, qP, qK, qD, qN⟩ := q; exact ⟨q0, q1, qP, va_K.moved (u := U) (U := U.calling g mk a) (Vm.Alike.refl U.vm) qK, qD, qN.same rfl⟩, va_recv hK hP (ci := 5) (q0 := k_37) rfl (Wd_ob kg_39 sg_39 (by decide)), fun U hU hW => ⟨rfl, by rw [hU], by rw [hU]; exact hP, va_K.moved hW.alike hK, hD.weaken (fun _ _ _ _ => trivial), hN.warm hW⟩⟩ rfl rfl hl.1 rfl (lv_room (Nat.le_of_ble_eq_true rfl)) dX6_readStructures_115 ⟨Nat.le_of_ble_eq_true rfl, Nat.le_of_ble_eq_true rfl⟩) hS (fun q _ h => hFc q h) hFc (fun u t H_40 locs ht hvm hw hB hz1 hk1 hS2 => ?_)
        obtain ⟨hP1, -, hD1⟩ := hB
        rw [ht] at hP1
        replace hD := hD1.weaken (fun _ _ _ h => hFc _ h)
        replace hP := hP1
        replace hS := hS2
        clear hP1 hD1 hS2 hFc hfc hz1 hk1 hvm ht
        refine lv_aload_n hx hb dX6_readStructures_118 rfl (lv_at hl 2 rfl) ?_
        obtain ⟨k_41, ek_41, hf⟩ := lnk_some hf
        refine va_get (D := (dC, dI)) (ci := 6) (v := .ref (a k_41)) (C := RX6) (T := TX6) (N := 9) hx hb hts iwd_X6_readStructures_X6 hown hK hP h0 (Wd_ob kg_1 sg_1 (by decide)) rfl 2 (by decide) (hts _ md_X6_readStructures_1) (fun _ h9 => h9) (fl_q rfl ek_41) dX6_readStructures_119 ?_
        refine lv_iload_n hx hb dX6_readStructures_122 rfl (lv_at hl 1 rfl) ?_
        refine lv_iconst (v := 4) hx hb dX6_readStructures_123 (by decide) ?_
        refine lv_aload_n hx hb dX6_readStructures_124 rfl (lv_at hl 2 rfl) ?_
        obtain ⟨k_42, ek_42, hf⟩ := lnk_some hf
        refine va_get (D := (dC, dI)) (ci := 6) (v := .ref (a k_42)) (C := RX6) (T := TX6) (N := 9) hx hb hts iwd_X6_readStructures_X6 hown hK hP h0 (Wd_ob kg_1 sg_1 (by decide)) rfl 2 (by decide) (hts _ md_X6_readStructures_1) (fun _ h9 => h9) (fl_q rfl ek_42) dX6_readStructures_125 ?_
        obtain ⟨g_43, hf⟩ := grd_some hf
        obtain ⟨kg_43, sg_43⟩ := okO_at g_43
        refine va_get (D := (dC, dI)) (ci := 5) (v := .int (z_38.1 k_42 2)) (C := RX5) (T := TX5) (N := 15) hx hb hts iwd_X6_readStructures_X5 hown hK hP k_42 (Wd_ob kg_43 sg_43 (by decide)) rfl 2 (by decide) (hts _ md_X6_readStructures_8) (fun _ h9 => h9) (fl_at (t := 0) rfl) dX6_readStructures_128 ?_
        obtain ⟨g_45, hf⟩ := grd_some hf
        obtain ⟨kg_45, sg_45⟩ := okO_at g_45
        obtain ⟨z_44, _u, hfc, hf⟩ := cal_some hf
        have hFc := de_free hD hS hA
        refine va_callv (va_runV (As := [.int p_10, .int 4, .int (z_38.1 k_42 2)]) (rest := []) ⟨hx, hb, hml, hown, hts⟩ (de_X5_setStructure l dC dI cy a sh n H_40.size F z_38 k_41 p_10 4 (z_38.1 k_42 2) hfc) (cwV 3 hts gX6_readStructures_X5_setStructure rfl rfl rfl (by decide +kernel) ⟨Nat.le_of_ble_eq_true rfl, Nat.le_of_ble_eq_true rfl⟩) ⟨fun a U g mk q => by obtain ⟨q0, q1, qP, qK, qD, qN⟩ := q; exact ⟨q0, q1, qP, va_K.moved (u := U) (U := U.calling g mk a) (Vm.Alike.refl U.vm) qK, qD, qN.same rfl⟩, va_recv hK hP (ci := 5) (q0 := k_41) rfl (Wd_ob kg_45 sg_45 (by decide)), fun U hU hW => ⟨rfl, by rw [hU], by rw [hU]; exact hP, va_K.moved hW.alike hK, hD.weaken (fun _ _ _ _ => trivial), hN.warm hW⟩⟩ rfl rfl hl.1 rfl (lv_room (Nat.le_of_ble_eq_true rfl)) dX6_readStructures_131 ⟨Nat.le_of_ble_eq_true rfl, Nat.le_of_ble_eq_true rfl⟩) hS (fun q _ h => hFc q h) hFc (fun u t H_46 locs ht hvm hw hB hz1 hk1 hS2 => ?_)
        obtain ⟨hP1, -, hD1⟩ := hB
        rw [ht] at hP1
        replace hD := hD1.weaken (fun _ _ _ h => hFc _ h)
        replace hP := hP1
        replace hS := hS2
        clear hP1 hD1 hS2 hFc hfc hz1 hk1 hvm ht
        refine lv_aload_n hx hb dX6_readStructures_134 rfl (lv_at hl 2 rfl) ?_
        obtain ⟨k_47, ek_47, hf⟩ := lnk_some hf
        refine va_get (D := (dC, dI)) (ci := 6) (v := .ref (a k_47)) (C := RX6) (T := TX6) (N := 9) hx hb hts iwd_X6_readStructures_X6 hown hK hP h0 (Wd_ob kg_1 sg_1 (by decide)) rfl 2 (by decide) (hts _ md_X6_readStructures_1) (fun _ h9 => h9) (fl_q rfl ek_47) dX6_readStructures_135 ?_
        refine lv_iload_n hx hb dX6_readStructures_138 rfl (lv_at hl 1 rfl) ?_
        refine lv_iconst (v := 5) hx hb dX6_readStructures_139 (by decide) ?_
        refine lv_iload_n hx hb dX6_readStructures_140 rfl (lv_at hl 1 rfl) ?_
        obtain ⟨g_49, hf⟩ := grd_some hf
        obtain ⟨kg_49, sg_49⟩ := okO_at g_49
        obtain ⟨z_48, _u, hfc, hf⟩ := cal_some hf
        have hFc := de_free hD hS hA
        refine va_callv (va_runV (As := [.int p_10, .int 5, .int p_10]) (rest := []) ⟨hx, hb, hml, hown, hts⟩ (de_X5_setStructure l dC dI cy a sh n H_46.size F z_44 k_47 p_10 5 p_10 hfc) (cwV 3 hts gX6_readStructures_X5_setStructure rfl rfl rfl (by decide +kernel) ⟨Nat.le_of_ble_eq_true rfl, Nat.le_of_ble_eq_true rfl⟩) ⟨fun a U g mk q => by obtain ⟨q0, q1, qP, qK, qD, qN⟩ := q; exact ⟨q0, q1, qP, va_K.moved (u := U) (U := U.calling g mk a) (Vm.Alike.refl U.vm) qK, qD, qN.same rfl⟩, va_recv hK hP (ci := 5) (q0 := k_47) rfl (Wd_ob kg_49 sg_49 (by decide)), fun U hU hW => ⟨rfl, by rw [hU], by rw [hU]; exact hP, va_K.moved hW.alike hK, hD.weaken (fun _ _ _ _ => trivial), hN.warm hW⟩⟩ rfl rfl hl.1 rfl (lv_room (Nat.le_of_ble_eq_true rfl)) dX6_readStructures_141 ⟨Nat.le_of_ble_eq_true rfl, Nat.le_of_ble_eq_true rfl⟩) hS (fun q _ h => hFc q h) hFc (fun u t H_50 locs ht hvm hw hB hz1 hk1 hS2 => ?_)
        obtain ⟨hP1, -, hD1⟩ := hB
        rw [ht] at hP1
        replace hD := hD1.weaken (fun _ _ _ h => hFc _ h)
        replace hP := hP1
        replace hS := hS2
        clear hP1 hD1 hS2 hFc hfc hz1 hk1 hvm ht
        refine lv_aload_n hx hb dX6_readStructures_144 rfl (lv_at hl 2 rfl) ?_
        refine lv_iload_n hx hb dX6_readStructures_145 rfl (lv_at hl 0 rfl) ?_
        refine lv_iconst (v := 0) hx hb dX6_readStructures_146 (by decide) ?_
        obtain ⟨z_51, _u, hfc, hf⟩ := cal_some hf
        have hFc := de_free hD hS hA
        refine va_callv (va_runV (As := [.int r_29, .int 0]) (rest := []) ⟨hx, hb, hml, hown, hts⟩ (de_X6_readTypes l dC dI cy a sh n H_50.size F z_48 h0 r_29 0 hfc) (cwV 2 hts gX6_readStructures_X6_readTypes rfl rfl rfl (by decide +kernel) ⟨Nat.le_of_ble_eq_true rfl, Nat.le_of_ble_eq_true rfl⟩) ⟨fun a U g mk q => by obtain ⟨q0, q1, qP, qK, qD, qN⟩ := q; exact ⟨q0, q1, qP, va_K.moved (u := U) (U := U.calling g mk a) (Vm.Alike.refl U.vm) qK, qD, qN.same rfl⟩, va_recv hK hP (ci := 6) (q0 := h0) rfl (Wd_ob kg_1 sg_1 (by decide)), fun U hU hW => ⟨rfl, by rw [hU], by rw [hU]; exact hP, va_K.moved hW.alike hK, hD.weaken (fun _ _ _ _ => trivial), hN.warm hW⟩⟩ rfl rfl hl.1 rfl (lv_room (Nat.le_of_ble_eq_true rfl)) dX6_readStructures_147 ⟨Nat.le_of_ble_eq_true rfl, Nat.le_of_ble_eq_true rfl⟩) hS (fun q _ h => hFc q h) hFc (fun u t H_52 locs ht hvm hw hB hz1 hk1 hS2 => ?_)
        obtain ⟨hP1, -, hD1⟩ := hB
        rw [ht] at hP1
        replace hD := hD1.weaken (fun _ _ _ h => hFc _ h)
        replace hP := hP1
        replace hS := hS2
        clear hP1 hD1 hS2 hFc hfc hz1 hk1 hvm ht
        refine lv_iinc (v := (p_10 + 1)) (lv' := [(1, .int (p_10 + 1)), (2, .int r_29), (0, .ref (a h0))]) hx hb dX6_readStructures_150 hl (k := 1) rfl rfl (by decide) rfl (fun ls hl2 => ?_)
        replace hl := hl2
        clear hl2
        refine lv_goto (tgt := 37) hx hb dX6_readStructures_153 (by decide) ?_
        exact ih37 (z_51, (p_10 + 1)) ls H_52 locs ⟨lv_sub hl [0, 2] rfl, hP, hD, hS⟩ hf
  refine lv_if_ne (tgt := 35) hx hb dX6_readStructures_18 (by decide) (fun c_53 => ?_) (fun c_53 => ?_)
  · skip
    rw [if_neg c_53] at hf
    exact B35 (z_8) ls H_7 locs ⟨lv_sub hl [0] rfl, hP, hD, hS⟩ hf
  · skip
    rw [if_pos c_53] at hf
    refine lv_aload_n hx hb dX6_readStructures_21 rfl (lv_at hl 0 rfl) ?_
    obtain ⟨k_54, ek_54, hf⟩ := lnk_some hf
    refine va_get (D := (dC, dI)) (ci := 6) (v := .ref (a k_54)) (C := RX6) (T := TX6) (N := 9) hx hb hts iwd_X6_readStructures_X6 hown hK hP h0 (Wd_ob kg_1 sg_1 (by decide)) rfl 2 (by decide) (hts _ md_X6_readStructures_1) (fun _ h9 => h9) (fl_q rfl ek_54) dX6_readStructures_22 ?_
    refine lv_aload_n hx hb dX6_readStructures_25 rfl (lv_at hl 0 rfl) ?_
    obtain ⟨k_55, ek_55, hf⟩ := lnk_some hf
    refine va_get (D := (dC, dI)) (ci := 6) (v := .ref (a k_55)) (C := RX6) (T := TX6) (N := 9) hx hb hts iwd_X6_readStructures_X6 hown hK hP h0 (Wd_ob kg_1 sg_1 (by decide)) rfl 2 (by decide) (hts _ md_X6_readStructures_1) (fun _ h9 => h9) (fl_q rfl ek_55) dX6_readStructures_26 ?_
    obtain ⟨g_56, hf⟩ := grd_some hf
    obtain ⟨kg_56, sg_56⟩ := okO_at g_56
    refine va_get (D := (dC, dI)) (ci := 5) (v := .int (z_8.1 k_55 8)) (C := RX5) (T := TX5) (N := 15) hx hb hts iwd_X6_readStructures_X5 hown hK hP k_55 (Wd_ob kg_56 sg_56 (by decide)) rfl 8 (by decide) (hts _ md_X6_readStructures_2) (fun _ h9 => h9) (fl_at (t := 0) rfl) dX6_readStructures_29 ?_
    obtain ⟨g_57, hf⟩ := grd_some hf
    obtain ⟨kg_57, sg_57⟩ := okO_at g_57
    refine va_put (D := (dC, dI)) (ci := 5) (v := .int (z_8.1 k_55 8)) (ty := .int) (C := RX5) (T := TX5) (N := 15) hx hb hts iwd_X6_readStructures_X5 tyX5 tyX5_ok nmX5 hown hK hP hD hS k_54 (Wd_ob kg_57 sg_57 (by decide)) rfl 9 (by decide) (hts _ md_X6_readStructures_4) (fun _ h9 => h9) rfl (by decide +kernel) rfl rfl (by rw [fl_len]; decide) dX6_readStructures_32 (fun H_58 locs hP2 hD2 hS2 => ?_)
    rw [Wd_si sg_57 (by decide) rfl] at hP2 hD2
    obtain ⟨z_59, ez_59⟩ : ∃ w, w = si z_8 k_54 9 (z_8.1 k_55 8) := ⟨_, rfl⟩
    rw [← ez_59] at hP2 hD2
    replace hf := lt_at ez_59 hf
    clear ez_59
    replace hP := hP2
    replace hD := hD2
    replace hS := hS2
    clear hP2 hD2 hS2
    exact B35 (z_59) ls H_58 locs ⟨lv_sub hl [0] rfl, hP, hD, hS⟩ hf

theorem md_X6_readForeignStructures_1 : (.fieldLink RX6 17 "ResourceLedger$Reader" "p" "LResourceLedger$Program;" : Cond) ∈ wsX6_readForeignStructures := List.mem_of_getElem? (i := 1) rfl
theorem iwd_X6_readForeignStructures_X6 : ∀ w ∈ wsX60, w ∈ wsX6_readForeignStructures := fun _ h => List.mem_cons_of_mem _ (List.mem_append_left _ (List.mem_append_right _ h))
theorem md_X6_readForeignStructures_2 : (.fieldLink RX6 100 "ResourceLedger$Program" "ownStructures" "I" : Cond) ∈ wsX6_readForeignStructures := List.mem_of_getElem? (i := 2) rfl
theorem iwd_X6_readForeignStructures_X5 : ∀ w ∈ wsX50, w ∈ wsX6_readForeignStructures := fun _ h => List.mem_cons_of_mem _ (List.mem_append_right _ h)
theorem md_X6_readForeignStructures_3 : (.fieldLink RX6 103 "ResourceLedger$Program" "allStructures" "I" : Cond) ∈ wsX6_readForeignStructures := List.mem_of_getElem? (i := 3) rfl
theorem md_X6_readForeignStructures_4 : (.fieldLink RX6 21 "ResourceLedger$Reader" "fault" "I" : Cond) ∈ wsX6_readForeignStructures := List.mem_of_getElem? (i := 4) rfl
def fn_X6_readForeignStructures_L32 (F : Nat) (sh : Nat → Nat × Nat) (n : Nat) (h0 : Nat) : Nat → St → Int32 → Option (St × Unit)
  | 0, _, _ => none
  | f_16 + 1, z_15, p_14 => lnk (z_15.2.2 h0 2) (fun k_17 => grd (okO sh n k_17 5) (if ((z_15.1 k_17 9) : Int32) ≤ p_14 then some (z_15, ()) else if ((z_15.1 h0 1) : Int32) = 0 then lnk (z_15.2.2 h0 2) (fun k_21 => cal (fn_X6_readShort F sh n z_15 h0) (fun z_22 r_23 => grd (okO sh n k_21 5) (cal (fn_X5_setStructure F sh n z_22 k_21 p_14 4 r_23) (fun z_25 _ => lnk (z_25.2.2 h0 2) (fun k_28 => cal (fn_X6_readByte F sh n z_25 h0) (fun z_29 r_30 => grd (okO sh n k_28 5) (cal (fn_X5_setStructure F sh n z_29 k_28 p_14 5 r_30) (fun z_32 _ => lnk (z_32.2.2 h0 2) (fun k_35 => cal (fn_X6_readNumber F sh n z_32 h0 0 15) (fun z_36 r_37 => grd (okO sh n k_35 5) (cal (fn_X5_setStructure F sh n z_36 k_35 p_14 0 r_37) (fun z_39 _ => lnk (z_39.2.2 h0 2) (fun k_42 => grd (okO sh n k_42 5) (cal (fn_X5_setStructure F sh n z_39 k_42 p_14 3 0) (fun z_43 _ => fn_X6_readForeignStructures_L32 F sh n h0 f_16 z_43 (p_14 + 1)))))))))))))))) else some (z_15, ())))
theorem fn_X6_readForeignStructures_L32_s {F : Nat} {sh : Nat → Nat × Nat} {n : Nat} {h0 : Nat} {f_16 : Nat} {z_15 : St} {p_14 : Int32} {y : St × Unit} (h : fn_X6_readForeignStructures_L32 F sh n h0 (f_16 + 1) z_15 p_14 = some y) : (lnk (z_15.2.2 h0 2) (fun k_17 => grd (okO sh n k_17 5) (if ((z_15.1 k_17 9) : Int32) ≤ p_14 then some (z_15, ()) else if ((z_15.1 h0 1) : Int32) = 0 then lnk (z_15.2.2 h0 2) (fun k_21 => cal (fn_X6_readShort F sh n z_15 h0) (fun z_22 r_23 => grd (okO sh n k_21 5) (cal (fn_X5_setStructure F sh n z_22 k_21 p_14 4 r_23) (fun z_25 _ => lnk (z_25.2.2 h0 2) (fun k_28 => cal (fn_X6_readByte F sh n z_25 h0) (fun z_29 r_30 => grd (okO sh n k_28 5) (cal (fn_X5_setStructure F sh n z_29 k_28 p_14 5 r_30) (fun z_32 _ => lnk (z_32.2.2 h0 2) (fun k_35 => cal (fn_X6_readNumber F sh n z_32 h0 0 15) (fun z_36 r_37 => grd (okO sh n k_35 5) (cal (fn_X5_setStructure F sh n z_36 k_35 p_14 0 r_37) (fun z_39 _ => lnk (z_39.2.2 h0 2) (fun k_42 => grd (okO sh n k_42 5) (cal (fn_X5_setStructure F sh n z_39 k_42 p_14 3 0) (fun z_43 _ => fn_X6_readForeignStructures_L32 F sh n h0 f_16 z_43 (p_14 + 1)))))))))))))))) else some (z_15, ())))) = some y := h
def fn_X6_readForeignStructures (F : Nat) (sh : Nat → Nat × Nat) (n : Nat) (z : St) (h0 : Nat) : Option (St × Unit) := grd (okO sh n h0 6) (cal (fn_X6_readNumber F sh n z h0 0 32) (fun z_1 r_2 => lnk (z_1.2.2 h0 2) (fun k_5 => lnk (z_1.2.2 h0 2) (fun k_6 => grd (okO sh n k_6 5) (grd (okO sh n k_5 5) (lt_ (si z_1 k_5 9 ((z_1.1 k_6 8) + r_2)) (fun z_10 => lnk (z_10.2.2 h0 2) (fun k_11 => grd (okO sh n k_11 5) (lt_ (z_10.1 k_11 8) (fun v_13 => fn_X6_readForeignStructures_L32 F sh n h0 F z_10 v_13))))))))))
set_option maxHeartbeats 4000000 in
set_option maxRecDepth 100000 in
theorem de_X6_readForeignStructures (l : Launch) (dC : Nat → ClassId) (dI : Nat → Nat → Nat) (cy : Nat → ClassId) (a : Nat → Nat) (sh : Nat → Nat × Nat) (n sz : Nat) (F : Nat) (z : St) (h0 : Nat) {z8 : St} {r8 : Unit} (hf : fn_X6_readForeignStructures F sh n z h0 = some (z8, r8)) : Met l yX6_readForeignStructures wsX6_readForeignStructures ({ frames := 2, cells := 0, slots := 0, locals := 46 }) (va_Pc [.ref (a h0)] (fun U => U.heap.size = sz ∧ va_P (dC, dI) vwCl (Wd cy a sh n z) U.heap ∧ va_K (dC, dI) vwCl (TYS cy) U ∧ va_D (fun _ => True) (Wd cy a sh n z) ∧ NK U)) (va_Qv (fun u : Unit => True) (fun u t => va_P (dC, dI) vwCl (Wd cy a sh n z8) t.heap ∧ va_K (dC, dI) vwCl (TYS cy) t ∧ va_D (va_A (Wd cy a sh n z) sz) (Wd cy a sh n z8)) (va_A (Wd cy a sh n z) sz)) 0 0 (va_A (Wd cy a sh n z) sz) := by
  refine Met.ofW (cc := cX6_readForeignStructures) (maxL := 3) (ret := none) (by decide) rfl ?_
  intro p e s m args below meth c s₁ B hml hv
  obtain ⟨rfl, hsz, hP, hK, hD0, hN⟩ := hv
  have hx := B.exec
  have hb := B.bytes
  have hr := B.returns
  have hts := atoms_spec (ws := wsX6_readForeignStructures) B.pre
  have hown : s.vm.findClass RX6 = some m.cls := findClass_of_methodNamed B.named
  have hlocks := B.notSynchronized
  subst hsz
  have hD := hD0.self (sz := s.heap.size)
  clear hD0
  generalize hAe : va_A (Wd cy a sh n z) s.heap.size = A at hD ⊢
  have hA : ∀ q : Nat, s.heap.size ≤ q → A q := fun q h => by rw [← hAe]; exact Or.inr h
  clear hAe
  have hS : va_S A s.heap s.heap [] := va_S.rf
  have hl := lv_entry ([.ref (a h0)]) (n := 3) (Nat.le_of_ble_eq_true rfl)
  rw [lg_entry_eq]
  generalize (lg_sl ([.ref (a h0)]) ++ List.replicate (3 - (lg_sl ([.ref (a h0)])).length) Slot.unset).toArray = ls at hl ⊢
  replace hl : lv_has ls 3 [(0, .ref (a h0))] := hl
  unfold fn_X6_readForeignStructures at hf
  refine de_start hS hP (fun H locs hS hP => ?_)
  refine lv_aload_n hx hb dX6_readForeignStructures_0 rfl (lv_at hl 0 rfl) ?_
  refine lv_iconst (v := 0) hx hb dX6_readForeignStructures_1 (by decide) ?_
  refine lv_bipush (v := 32) hx hb dX6_readForeignStructures_2 (by decide) ?_
  obtain ⟨g_3, hf⟩ := grd_some hf
  obtain ⟨kg_3, sg_3⟩ := okO_at g_3
  obtain ⟨z_1, r_2, hfc, hf⟩ := cal_some hf
  have hFc := de_free hD hS hA
  refine va_calli (va_runV (As := [.int 0, .int 32]) (rest := []) ⟨hx, hb, hml, hown, hts⟩ (de_X6_readNumber l dC dI cy a sh n H.size F z h0 0 32 hfc) (cwV 2 hts gX6_readForeignStructures_X6_readNumber rfl rfl rfl (by decide +kernel) ⟨Nat.le_of_ble_eq_true rfl, Nat.le_of_ble_eq_true rfl⟩) ⟨fun a U g mk q => by obtain ⟨q0, q1, qP, qK, qD, qN⟩ := q; exact ⟨q0, q1, qP, va_K.moved (u := U) (U := U.calling g mk a) (Vm.Alike.refl U.vm) qK, qD, qN.same rfl⟩, va_recv hK hP (ci := 6) (q0 := h0) rfl (Wd_ob kg_3 sg_3 (by decide)), fun U hU hW => ⟨rfl, by rw [hU], by rw [hU]; exact hP, va_K.moved hW.alike hK, hD.weaken (fun _ _ _ _ => trivial), hN.warm hW⟩⟩ rfl rfl hl.1 rfl (lv_room (Nat.le_of_ble_eq_true rfl)) dX6_readForeignStructures_4 ⟨Nat.le_of_ble_eq_true rfl, Nat.le_of_ble_eq_true rfl⟩) hS (fun q _ h => hFc q h) hFc (fun rr u t H_4 locs ht hvm hw hB hz1 hk1 hS2 => ?_)
  rw [hw]
  clear hw
  obtain ⟨hP1, -, hD1⟩ := hB
  rw [ht] at hP1
  replace hD := hD1.weaken (fun _ _ _ h => hFc _ h)
  replace hP := hP1
  replace hS := hS2
  clear hP1 hD1 hS2 hFc hfc hz1 hk1 hvm ht
  refine lv_istore_n (lv' := [(1, .int r_2), (0, .ref (a h0))]) hx hb dX6_readForeignStructures_7 rfl hl (by decide) rfl (fun ls hl2 => ?_)
  replace hl := hl2
  clear hl2
  refine lv_aload_n hx hb dX6_readForeignStructures_8 rfl (lv_at hl 1 rfl) ?_
  obtain ⟨k_5, ek_5, hf⟩ := lnk_some hf
  refine va_get (D := (dC, dI)) (ci := 6) (v := .ref (a k_5)) (C := RX6) (T := TX6) (N := 9) hx hb hts iwd_X6_readForeignStructures_X6 hown hK hP h0 (Wd_ob kg_3 sg_3 (by decide)) rfl 2 (by decide) (hts _ md_X6_readForeignStructures_1) (fun _ h9 => h9) (fl_q rfl ek_5) dX6_readForeignStructures_9 ?_
  refine lv_aload_n hx hb dX6_readForeignStructures_12 rfl (lv_at hl 1 rfl) ?_
  obtain ⟨k_6, ek_6, hf⟩ := lnk_some hf
  refine va_get (D := (dC, dI)) (ci := 6) (v := .ref (a k_6)) (C := RX6) (T := TX6) (N := 9) hx hb hts iwd_X6_readForeignStructures_X6 hown hK hP h0 (Wd_ob kg_3 sg_3 (by decide)) rfl 2 (by decide) (hts _ md_X6_readForeignStructures_1) (fun _ h9 => h9) (fl_q rfl ek_6) dX6_readForeignStructures_13 ?_
  obtain ⟨g_7, hf⟩ := grd_some hf
  obtain ⟨kg_7, sg_7⟩ := okO_at g_7
  refine va_get (D := (dC, dI)) (ci := 5) (v := .int (z_1.1 k_6 8)) (C := RX5) (T := TX5) (N := 15) hx hb hts iwd_X6_readForeignStructures_X5 hown hK hP k_6 (Wd_ob kg_7 sg_7 (by decide)) rfl 8 (by decide) (hts _ md_X6_readForeignStructures_2) (fun _ h9 => h9) (fl_at (t := 0) rfl) dX6_readForeignStructures_16 ?_
  refine lv_iload_n hx hb dX6_readForeignStructures_19 rfl (lv_at hl 0 rfl) ?_
  refine lv_iadd hx hb dX6_readForeignStructures_20 ?_
  obtain ⟨g_8, hf⟩ := grd_some hf
  obtain ⟨kg_8, sg_8⟩ := okO_at g_8
  refine va_put (D := (dC, dI)) (ci := 5) (v := .int ((z_1.1 k_6 8) + r_2)) (ty := .int) (C := RX5) (T := TX5) (N := 15) hx hb hts iwd_X6_readForeignStructures_X5 tyX5 tyX5_ok nmX5 hown hK hP hD hS k_5 (Wd_ob kg_8 sg_8 (by decide)) rfl 9 (by decide) (hts _ md_X6_readForeignStructures_3) (fun _ h9 => h9) rfl (by decide +kernel) rfl rfl (by rw [fl_len]; decide) dX6_readForeignStructures_21 (fun H_9 locs hP2 hD2 hS2 => ?_)
  rw [Wd_si sg_8 (by decide) rfl] at hP2 hD2
  obtain ⟨z_10, ez_10⟩ : ∃ w, w = si z_1 k_5 9 ((z_1.1 k_6 8) + r_2) := ⟨_, rfl⟩
  rw [← ez_10] at hP2 hD2
  replace hf := lt_at ez_10 hf
  clear ez_10
  replace hP := hP2
  replace hD := hD2
  replace hS := hS2
  clear hP2 hD2 hS2
  refine lv_aload_n hx hb dX6_readForeignStructures_24 rfl (lv_at hl 1 rfl) ?_
  obtain ⟨k_11, ek_11, hf⟩ := lnk_some hf
  refine va_get (D := (dC, dI)) (ci := 6) (v := .ref (a k_11)) (C := RX6) (T := TX6) (N := 9) hx hb hts iwd_X6_readForeignStructures_X6 hown hK hP h0 (Wd_ob kg_3 sg_3 (by decide)) rfl 2 (by decide) (hts _ md_X6_readForeignStructures_1) (fun _ h9 => h9) (fl_q rfl ek_11) dX6_readForeignStructures_25 ?_
  obtain ⟨g_12, hf⟩ := grd_some hf
  obtain ⟨kg_12, sg_12⟩ := okO_at g_12
  refine va_get (D := (dC, dI)) (ci := 5) (v := .int (z_10.1 k_11 8)) (C := RX5) (T := TX5) (N := 15) hx hb hts iwd_X6_readForeignStructures_X5 hown hK hP k_11 (Wd_ob kg_12 sg_12 (by decide)) rfl 8 (by decide) (hts _ md_X6_readForeignStructures_2) (fun _ h9 => h9) (fl_at (t := 0) rfl) dX6_readForeignStructures_28 ?_
  refine lv_topi (fun v_13 ev_13 => ?_)
  replace hf := lt_at ev_13 hf
  clear ev_13
  refine lv_istore_n (lv' := [(2, .int v_13), (1, .int r_2), (0, .ref (a h0))]) hx hb dX6_readForeignStructures_31 rfl hl (by decide) rfl (fun ls hl2 => ?_)
  replace hl := hl2
  clear hl2
  have hl0 : lv_has ls 3 [(2, .int v_13), (0, .ref (a h0))] := lv_sub hl [0, 2] rfl
  refine de_loop (h := 32) (fun (x : St × Int32) ls H locs => lv_has ls 3 [(2, .int x.2), (0, .ref (a h0))] ∧ va_P (dC, dI) vwCl (Wd cy a sh n x.1) H ∧ va_D A (Wd cy a sh n x.1) ∧ va_S A s.heap H locs) (fun f x => fn_X6_readForeignStructures_L32 F sh n h0 f x.1 x.2) (z8, r8) ?_ (fun _ => rfl) F (z_10, v_13) ls H_9 locs ⟨hl0, hP, hD, hS⟩ hf
  intro f_16 x ls H locs ih32 hI hf
  obtain ⟨z_15, p_14⟩ := x
  obtain ⟨hl2, hP2, hD2, hS2⟩ := hI
  replace hl : lv_has ls 3 [(2, .int p_14), (0, .ref (a h0))] := hl2
  replace hP := hP2
  replace hD := hD2
  replace hS := hS2
  clear hl2 hP2 hD2 hS2 hl0
  replace hf := fn_X6_readForeignStructures_L32_s hf
  refine lv_iload_n hx hb dX6_readForeignStructures_32 rfl (lv_at hl 0 rfl) ?_
  refine lv_aload_n hx hb dX6_readForeignStructures_33 rfl (lv_at hl 1 rfl) ?_
  obtain ⟨k_17, ek_17, hf⟩ := lnk_some hf
  refine va_get (D := (dC, dI)) (ci := 6) (v := .ref (a k_17)) (C := RX6) (T := TX6) (N := 9) hx hb hts iwd_X6_readForeignStructures_X6 hown hK hP h0 (Wd_ob kg_3 sg_3 (by decide)) rfl 2 (by decide) (hts _ md_X6_readForeignStructures_1) (fun _ h9 => h9) (fl_q rfl ek_17) dX6_readForeignStructures_34 ?_
  obtain ⟨g_18, hf⟩ := grd_some hf
  obtain ⟨kg_18, sg_18⟩ := okO_at g_18
  refine va_get (D := (dC, dI)) (ci := 5) (v := .int (z_15.1 k_17 9)) (C := RX5) (T := TX5) (N := 15) hx hb hts iwd_X6_readForeignStructures_X5 hown hK hP k_17 (Wd_ob kg_18 sg_18 (by decide)) rfl 9 (by decide) (hts _ md_X6_readForeignStructures_3) (fun _ h9 => h9) (fl_at (t := 0) rfl) dX6_readForeignStructures_37 ?_
  refine lv_icmp_ge (tgt := 108) hx hb dX6_readForeignStructures_40 (by decide) (fun c_19 => ?_) (fun c_19 => ?_)
  · skip
    rw [if_pos c_19] at hf
    obtain ⟨h8, h9⟩ := ret_some hf
    rw [h8]
    exact W.vret hx hb hr (fun t ht hW => ⟨⟨(), rfl, trivial, by rw [ht]; exact hP, va_K.moved hW.alike hK, hD⟩, hS.F ht⟩) hS.2.2 dX6_readForeignStructures_108
  · skip
    rw [if_neg c_19] at hf
    refine lv_aload_n hx hb dX6_readForeignStructures_43 rfl (lv_at hl 1 rfl) ?_
    refine va_get (D := (dC, dI)) (ci := 6) (v := .int (z_15.1 h0 1)) (C := RX6) (T := TX6) (N := 9) hx hb hts iwd_X6_readForeignStructures_X6 hown hK hP h0 (Wd_ob kg_3 sg_3 (by decide)) rfl 1 (by decide) (hts _ md_X6_readForeignStructures_4) (fun _ h9 => h9) (fl_at (t := 0) rfl) dX6_readForeignStructures_44 ?_
    refine lv_if_ne (tgt := 108) hx hb dX6_readForeignStructures_47 (by decide) (fun c_20 => ?_) (fun c_20 => ?_)
    · skip
      rw [if_neg c_20] at hf
      obtain ⟨h8, h9⟩ := ret_some hf
      rw [h8]
      exact W.vret hx hb hr (fun t ht hW => ⟨⟨(), rfl, trivial, by rw [ht]; exact hP, va_K.moved hW.alike hK, hD⟩, hS.F ht⟩) hS.2.2 dX6_readForeignStructures_108
    · skip
      rw [if_pos c_20] at hf
      refine lv_aload_n hx hb dX6_readForeignStructures_50 rfl (lv_at hl 1 rfl) ?_
      obtain ⟨k_21, ek_21, hf⟩ := lnk_some hf
      refine va_get (D := (dC, dI)) (ci := 6) (v := .ref (a k_21)) (C := RX6) (T := TX6) (N := 9) hx hb hts iwd_X6_readForeignStructures_X6 hown hK hP h0 (Wd_ob kg_3 sg_3 (by decide)) rfl 2 (by decide) (hts _ md_X6_readForeignStructures_1) (fun _ h9 => h9) (fl_q rfl ek_21) dX6_readForeignStructures_51 ?_
      refine lv_iload_n hx hb dX6_readForeignStructures_54 rfl (lv_at hl 0 rfl) ?_
      refine lv_iconst (v := 4) hx hb dX6_readForeignStructures_55 (by decide) ?_
      refine lv_aload_n hx hb dX6_readForeignStructures_56 rfl (lv_at hl 1 rfl) ?_
      obtain ⟨z_22, r_23, hfc, hf⟩ := cal_some hf
      have hFc := de_free hD hS hA
      refine va_calli (va_runV (As := []) (rest := [.int 4, .int p_14, .ref (a k_21)]) ⟨hx, hb, hml, hown, hts⟩ (de_X6_readShort l dC dI cy a sh n H.size F z_15 h0 hfc) (cwV 0 hts gX6_readForeignStructures_X6_readShort rfl rfl rfl (by decide +kernel) ⟨Nat.le_of_ble_eq_true rfl, Nat.le_of_ble_eq_true rfl⟩) ⟨fun a U g mk q => by obtain ⟨q0, q1, qP, qK, qD, qN⟩ := q; exact ⟨q0, q1, qP, va_K.moved (u := U) (U := U.calling g mk a) (Vm.Alike.refl U.vm) qK, qD, qN.same rfl⟩, va_recv hK hP (ci := 6) (q0 := h0) rfl (Wd_ob kg_3 sg_3 (by decide)), fun U hU hW => ⟨rfl, by rw [hU], by rw [hU]; exact hP, va_K.moved hW.alike hK, hD.weaken (fun _ _ _ _ => trivial), hN.warm hW⟩⟩ rfl rfl hl.1 rfl (lv_room (Nat.le_of_ble_eq_true rfl)) dX6_readForeignStructures_57 ⟨Nat.le_of_ble_eq_true rfl, Nat.le_of_ble_eq_true rfl⟩) hS (fun q _ h => hFc q h) hFc (fun rr u t H_24 locs ht hvm hw hB hz1 hk1 hS2 => ?_)
      rw [hw]
      clear hw
      obtain ⟨hP1, -, hD1⟩ := hB
      rw [ht] at hP1
      replace hD := hD1.weaken (fun _ _ _ h => hFc _ h)
      replace hP := hP1
      replace hS := hS2
      clear hP1 hD1 hS2 hFc hfc hz1 hk1 hvm ht
      obtain ⟨g_26, hf⟩ := grd_some hf
      obtain ⟨kg_26, sg_26⟩ := okO_at g_26
      obtain ⟨z_25, _u, hfc, hf⟩ := cal_some hf
      have hFc := de_free hD hS hA
      refine va_callv (va_runV (As := [.int p_14, .int 4, .int r_23]) (rest := []) ⟨hx, hb, hml, hown, hts⟩ (de_X5_setStructure l dC dI cy a sh n H_24.size F z_22 k_21 p_14 4 r_23 hfc) (cwV 3 hts gX6_readForeignStructures_X5_setStructure rfl rfl rfl (by decide +kernel) ⟨Nat.le_of_ble_eq_true rfl, Nat.le_of_ble_eq_true rfl⟩) ⟨fun a U g mk q => by obtain ⟨q0, q1, qP, qK, qD, qN⟩ := q; exact ⟨q0, q1, qP, va_K.moved (u := U) (U := U.calling g mk a) (Vm.Alike.refl U.vm) qK, qD, qN.same rfl⟩, va_recv hK hP (ci := 5) (q0 := k_21) rfl (Wd_ob kg_26 sg_26 (by decide)), fun U hU hW => ⟨rfl, by rw [hU], by rw [hU]; exact hP, va_K.moved hW.alike hK, hD.weaken (fun _ _ _ _ => trivial), hN.warm hW⟩⟩ rfl rfl hl.1 rfl (lv_room (Nat.le_of_ble_eq_true rfl)) dX6_readForeignStructures_60 ⟨Nat.le_of_ble_eq_true rfl, Nat.le_of_ble_eq_true rfl⟩) hS (fun q _ h => hFc q h) hFc (fun u t H_27 locs ht hvm hw hB hz1 hk1 hS2 => ?_)
      obtain ⟨hP1, -, hD1⟩ := hB
      rw [ht] at hP1
      replace hD := hD1.weaken (fun _ _ _ h => hFc _ h)
      replace hP := hP1
      replace hS := hS2
      clear hP1 hD1 hS2 hFc hfc hz1 hk1 hvm ht
      refine lv_aload_n hx hb dX6_readForeignStructures_63 rfl (lv_at hl 1 rfl) ?_
      obtain ⟨k_28, ek_28, hf⟩ := lnk_some hf
      refine va_get (D := (dC, dI)) (ci := 6) (v := .ref (a k_28)) (C := RX6) (T := TX6) (N := 9) hx hb hts iwd_X6_readForeignStructures_X6 hown hK hP h0 (Wd_ob kg_3 sg_3 (by decide)) rfl 2 (by decide) (hts _ md_X6_readForeignStructures_1) (fun _ h9 => h9) (fl_q rfl ek_28) dX6_readForeignStructures_64 ?_
      refine lv_iload_n hx hb dX6_readForeignStructures_67 rfl (lv_at hl 0 rfl) ?_
      refine lv_iconst (v := 5) hx hb dX6_readForeignStructures_68 (by decide) ?_
      refine lv_aload_n hx hb dX6_readForeignStructures_69 rfl (lv_at hl 1 rfl) ?_
      obtain ⟨z_29, r_30, hfc, hf⟩ := cal_some hf
      have hFc := de_free hD hS hA
      refine va_calli (va_runV (As := []) (rest := [.int 5, .int p_14, .ref (a k_28)]) ⟨hx, hb, hml, hown, hts⟩ (de_X6_readByte l dC dI cy a sh n H_27.size F z_25 h0 hfc) (cwV 0 hts gX6_readForeignStructures_X6_readByte rfl rfl rfl (by decide +kernel) ⟨Nat.le_of_ble_eq_true rfl, Nat.le_of_ble_eq_true rfl⟩) ⟨fun a U g mk q => by obtain ⟨q0, q1, qP, qK, qD, qN⟩ := q; exact ⟨q0, q1, qP, va_K.moved (u := U) (U := U.calling g mk a) (Vm.Alike.refl U.vm) qK, qD, qN.same rfl⟩, va_recv hK hP (ci := 6) (q0 := h0) rfl (Wd_ob kg_3 sg_3 (by decide)), fun U hU hW => ⟨rfl, by rw [hU], by rw [hU]; exact hP, va_K.moved hW.alike hK, hD.weaken (fun _ _ _ _ => trivial), hN.warm hW⟩⟩ rfl rfl hl.1 rfl (lv_room (Nat.le_of_ble_eq_true rfl)) dX6_readForeignStructures_70 ⟨Nat.le_of_ble_eq_true rfl, Nat.le_of_ble_eq_true rfl⟩) hS (fun q _ h => hFc q h) hFc (fun rr u t H_31 locs ht hvm hw hB hz1 hk1 hS2 => ?_)
      rw [hw]
      clear hw
      obtain ⟨hP1, -, hD1⟩ := hB
      rw [ht] at hP1
      replace hD := hD1.weaken (fun _ _ _ h => hFc _ h)
      replace hP := hP1
      replace hS := hS2
      clear hP1 hD1 hS2 hFc hfc hz1 hk1 hvm ht
      obtain ⟨g_33, hf⟩ := grd_some hf
      obtain ⟨kg_33, sg_33⟩ := okO_at g_33
      obtain ⟨z_32, _u, hfc, hf⟩ := cal_some hf
      have hFc := de_free hD hS hA
      refine va_callv (va_runV (As := [.int p_14, .int 5, .int r_30]) (rest := []) ⟨hx, hb, hml, hown, hts⟩ (de_X5_setStructure l dC dI cy a sh n H_31.size F z_29 k_28 p_14 5 r_30 hfc) (cwV 3 hts gX6_readForeignStructures_X5_setStructure rfl rfl rfl (by decide +kernel) ⟨Nat.le_of_ble_eq_true rfl, Nat.le_of_ble_eq_true rfl⟩) ⟨fun a U g mk q => by obtain ⟨q0, q1, qP, qK, qD, qN⟩ := q; exact ⟨q0, q1, qP, va_K.moved (u := U) (U := U.calling g mk a) (Vm.Alike.refl U.vm) qK, qD, qN.same rfl⟩, va_recv hK hP (ci := 5) (q0 := k_28) rfl (Wd_ob kg_33 sg_33 (by decide)), fun U hU hW => ⟨rfl, by rw [hU], by rw [hU]; exact hP, va_K.moved hW.alike hK, hD.weaken (fun _ _ _ _ => trivial), hN.warm hW⟩⟩ rfl rfl hl.1 rfl (lv_room (Nat.le_of_ble_eq_true rfl)) dX6_readForeignStructures_73 ⟨Nat.le_of_ble_eq_true rfl, Nat.le_of_ble_eq_true rfl⟩) hS (fun q _ h => hFc q h) hFc (fun u t H_34 locs ht hvm hw hB hz1 hk1 hS2 => ?_)
      obtain ⟨hP1, -, hD1⟩ := hB
      rw [ht] at hP1
      replace hD := hD1.weaken (fun _ _ _ h => hFc _ h)
      replace hP := hP1
      replace hS := hS2
      clear hP1 hD1 hS2 hFc hfc hz1 hk1 hvm ht
      refine lv_aload_n hx hb dX6_readForeignStructures_76 rfl (lv_at hl 1 rfl) ?_
      obtain ⟨k_35, ek_35, hf⟩ := lnk_some hf
      refine va_get (D := (dC, dI)) (ci := 6) (v := .ref (a k_35)) (C := RX6) (T := TX6) (N := 9) hx hb hts iwd_X6_readForeignStructures_X6 hown hK hP h0 (Wd_ob kg_3 sg_3 (by decide)) rfl 2 (by decide) (hts _ md_X6_readForeignStructures_1) (fun _ h9 => h9) (fl_q rfl ek_35) dX6_readForeignStructures_77 ?_
      refine lv_iload_n hx hb dX6_readForeignStructures_80 rfl (lv_at hl 0 rfl) ?_
      refine lv_iconst (v := 0) hx hb dX6_readForeignStructures_81 (by decide) ?_
      refine lv_aload_n hx hb dX6_readForeignStructures_82 rfl (lv_at hl 1 rfl) ?_
      refine lv_iconst (v := 0) hx hb dX6_readForeignStructures_83 (by decide) ?_
      refine lv_bipush (v := 15) hx hb dX6_readForeignStructures_84 (by decide) ?_
      obtain ⟨z_36, r_37, hfc, hf⟩ := cal_some hf
      have hFc := de_free hD hS hA
      refine va_calli (va_runV (As := [.int 0, .int 15]) (rest := [.int 0, .int p_14, .ref (a k_35)]) ⟨hx, hb, hml, hown, hts⟩ (de_X6_readNumber l dC dI cy a sh n H_34.size F z_32 h0 0 15 hfc) (cwV 2 hts gX6_readForeignStructures_X6_readNumber rfl rfl rfl (by decide +kernel) ⟨Nat.le_of_ble_eq_true rfl, Nat.le_of_ble_eq_true rfl⟩) ⟨fun a U g mk q => by obtain ⟨q0, q1, qP, qK, qD, qN⟩ := q; exact ⟨q0, q1, qP, va_K.moved (u := U) (U := U.calling g mk a) (Vm.Alike.refl U.vm) qK, qD, qN.same rfl⟩, va_recv hK hP (ci := 6) (q0 := h0) rfl (Wd_ob kg_3 sg_3 (by decide)), fun U hU hW => ⟨rfl, by rw [hU], by rw [hU]; exact hP, va_K.moved hW.alike hK, hD.weaken (fun _ _ _ _ => trivial), hN.warm hW⟩⟩ rfl rfl hl.1 rfl (lv_room (Nat.le_of_ble_eq_true rfl)) dX6_readForeignStructures_86 ⟨Nat.le_of_ble_eq_true rfl, Nat.le_of_ble_eq_true rfl⟩) hS (fun q _ h => hFc q h) hFc (fun rr u t H_38 locs ht hvm hw hB hz1 hk1 hS2 => ?_)
      rw [hw]
      clear hw
      obtain ⟨hP1, -, hD1⟩ := hB
      rw [ht] at hP1
      replace hD := hD1.weaken (fun _ _ _ h => hFc _ h)
      replace hP := hP1
      replace hS := hS2
      clear hP1 hD1 hS2 hFc hfc hz1 hk1 hvm ht
      obtain ⟨g_40, hf⟩ := grd_some hf
      obtain ⟨kg_40, sg_40⟩ := okO_at g_40
      obtain ⟨z_39, _u, hfc, hf⟩ := cal_some hf
      have hFc := de_free hD hS hA
      refine va_callv (va_runV (As := [.int p_14, .int 0, .int r_37]) (rest := []) ⟨hx, hb, hml, hown, hts⟩ (de_X5_setStructure l dC dI cy a sh n H_38.size F z_36 k_35 p_14 0 r_37 hfc) (cwV 3 hts gX6_readForeignStructures_X5_setStructure rfl rfl rfl (by decide +kernel) ⟨Nat.le_of_ble_eq_true rfl, Nat.le_of_ble_eq_true rfl⟩) ⟨fun a U g mk q => by obtain ⟨q0, q1, qP, qK, qD, qN⟩ := q; exact ⟨q0, q1, qP, va_K.moved (u := U) (U := U.calling g mk a) (Vm.Alike.refl U.vm) qK, qD, qN.same rfl⟩, va_recv hK hP (ci := 5) (q0 := k_35) rfl (Wd_ob kg_40 sg_40 (by decide)), fun U hU hW => ⟨rfl, by rw [hU], by rw [hU]; exact hP, va_K.moved hW.alike hK, hD.weaken (fun _ _ _ _ => trivial), hN.warm hW⟩⟩ rfl rfl hl.1 rfl (lv_room (Nat.le_of_ble_eq_true rfl)) dX6_readForeignStructures_89 ⟨Nat.le_of_ble_eq_true rfl, Nat.le_of_ble_eq_true rfl⟩) hS (fun q _ h => hFc q h) hFc (fun u t H_41 locs ht hvm hw hB hz1 hk1 hS2 => ?_)
      obtain ⟨hP1, -, hD1⟩ := hB
      rw [ht] at hP1
      replace hD := hD1.weaken (fun _ _ _ h => hFc _ h)
      replace hP := hP1
      replace hS := hS2
      clear hP1 hD1 hS2 hFc hfc hz1 hk1 hvm ht
      refine lv_aload_n hx hb dX6_readForeignStructures_92 rfl (lv_at hl 1 rfl) ?_
      obtain ⟨k_42, ek_42, hf⟩ := lnk_some hf
      refine va_get (D := (dC, dI)) (ci := 6) (v := .ref (a k_42)) (C := RX6) (T := TX6) (N := 9) hx hb hts iwd_X6_readForeignStructures_X6 hown hK hP h0 (Wd_ob kg_3 sg_3 (by decide)) rfl 2 (by decide) (hts _ md_X6_readForeignStructures_1) (fun _ h9 => h9) (fl_q rfl ek_42) dX6_readForeignStructures_93 ?_
      refine lv_iload_n hx hb dX6_readForeignStructures_96 rfl (lv_at hl 0 rfl) ?_
      refine lv_iconst (v := 3) hx hb dX6_readForeignStructures_97 (by decide) ?_
      refine lv_iconst (v := 0) hx hb dX6_readForeignStructures_98 (by decide) ?_
      obtain ⟨g_44, hf⟩ := grd_some hf
      obtain ⟨kg_44, sg_44⟩ := okO_at g_44
      obtain ⟨z_43, _u, hfc, hf⟩ := cal_some hf
      have hFc := de_free hD hS hA
      refine va_callv (va_runV (As := [.int p_14, .int 3, .int 0]) (rest := []) ⟨hx, hb, hml, hown, hts⟩ (de_X5_setStructure l dC dI cy a sh n H_41.size F z_39 k_42 p_14 3 0 hfc) (cwV 3 hts gX6_readForeignStructures_X5_setStructure rfl rfl rfl (by decide +kernel) ⟨Nat.le_of_ble_eq_true rfl, Nat.le_of_ble_eq_true rfl⟩) ⟨fun a U g mk q => by obtain ⟨q0, q1, qP, qK, qD, qN⟩ := q; exact ⟨q0, q1, qP, va_K.moved (u := U) (U := U.calling g mk a) (Vm.Alike.refl U.vm) qK, qD, qN.same rfl⟩, va_recv hK hP (ci := 5) (q0 := k_42) rfl (Wd_ob kg_44 sg_44 (by decide)), fun U hU hW => ⟨rfl, by rw [hU], by rw [hU]; exact hP, va_K.moved hW.alike hK, hD.weaken (fun _ _ _ _ => trivial), hN.warm hW⟩⟩ rfl rfl hl.1 rfl (lv_room (Nat.le_of_ble_eq_true rfl)) dX6_readForeignStructures_99 ⟨Nat.le_of_ble_eq_true rfl, Nat.le_of_ble_eq_true rfl⟩) hS (fun q _ h => hFc q h) hFc (fun u t H_45 locs ht hvm hw hB hz1 hk1 hS2 => ?_)
      obtain ⟨hP1, -, hD1⟩ := hB
      rw [ht] at hP1
      replace hD := hD1.weaken (fun _ _ _ h => hFc _ h)
      replace hP := hP1
      replace hS := hS2
      clear hP1 hD1 hS2 hFc hfc hz1 hk1 hvm ht
      refine lv_iinc (v := (p_14 + 1)) (lv' := [(2, .int (p_14 + 1)), (0, .ref (a h0))]) hx hb dX6_readForeignStructures_102 hl (k := 0) rfl rfl (by decide) rfl (fun ls hl2 => ?_)
      replace hl := hl2
      clear hl2
      refine lv_goto (tgt := 32) hx hb dX6_readForeignStructures_105 (by decide) ?_
      exact ih32 (z_43, (p_14 + 1)) ls H_45 locs ⟨lv_sub hl [0, 1] rfl, hP, hD, hS⟩ hf

theorem md_X6_readForeignFunctions_1 : (.fieldLink RX6 17 "ResourceLedger$Reader" "p" "LResourceLedger$Program;" : Cond) ∈ wsX6_readForeignFunctions := List.mem_of_getElem? (i := 1) rfl
theorem iwd_X6_readForeignFunctions_X6 : ∀ w ∈ wsX60, w ∈ wsX6_readForeignFunctions := fun _ h => List.mem_cons_of_mem _ (List.mem_append_left _ (List.mem_append_right _ h))
theorem md_X6_readForeignFunctions_2 : (.fieldLink RX6 110 "ResourceLedger$Program" "foreignFunctions" "I" : Cond) ∈ wsX6_readForeignFunctions := List.mem_of_getElem? (i := 2) rfl
theorem iwd_X6_readForeignFunctions_X5 : ∀ w ∈ wsX50, w ∈ wsX6_readForeignFunctions := fun _ h => List.mem_cons_of_mem _ (List.mem_append_right _ h)
theorem md_X6_readForeignFunctions_3 : (.fieldLink RX6 21 "ResourceLedger$Reader" "fault" "I" : Cond) ∈ wsX6_readForeignFunctions := List.mem_of_getElem? (i := 3) rfl
theorem md_X6_readForeignFunctions_4 : (.fieldLink RX6 53 "ResourceLedger$Program" "typeCount" "I" : Cond) ∈ wsX6_readForeignFunctions := List.mem_of_getElem? (i := 4) rfl
def fn_X6_readForeignFunctions_L16 (F : Nat) (sh : Nat → Nat × Nat) (n : Nat) (h0 : Nat) : Nat → St → Int32 → Option (St × Unit)
  | 0, _, _ => none
  | f_11 + 1, z_10, p_9 => lnk (z_10.2.2 h0 2) (fun k_12 => grd (okO sh n k_12 5) (if ((z_10.1 k_12 12) : Int32) ≤ p_9 then some (z_10, ()) else if ((z_10.1 h0 1) : Int32) = 0 then lt_ (64 + p_9) (fun v_16 => lnk (z_10.2.2 h0 2) (fun k_17 => cal (fn_X6_readShort F sh n z_10 h0) (fun z_18 r_19 => grd (okO sh n k_17 5) (cal (fn_X5_setFunction F sh n z_18 k_17 v_16 7 r_19) (fun z_21 _ => lnk (z_21.2.2 h0 2) (fun k_24 => cal (fn_X6_readByte F sh n z_21 h0) (fun z_25 r_26 => grd (okO sh n k_24 5) (cal (fn_X5_setFunction F sh n z_25 k_24 v_16 8 r_26) (fun z_28 _ => lnk (z_28.2.2 h0 2) (fun k_31 => cal (fn_X6_readNumber F sh n z_28 h0 0 7) (fun z_32 r_33 => grd (okO sh n k_31 5) (cal (fn_X5_setFunction F sh n z_32 k_31 v_16 0 r_33) (fun z_35 _ => lnk (z_35.2.2 h0 2) (fun k_38 => lnk (z_35.2.2 h0 2) (fun k_39 => grd (okO sh n k_39 5) (grd (okO sh n k_38 5) (cal (fn_X5_setFunction F sh n z_35 k_38 v_16 1 (z_35.1 k_39 4)) (fun z_41 _ => lnk (z_41.2.2 h0 2) (fun k_44 => cal (fn_X6_readList F sh n z_41 h0 8) (fun z_45 r_46 => grd (okO sh n k_44 5) (cal (fn_X5_setFunction F sh n z_45 k_44 v_16 2 r_46) (fun z_48 _ => lnk (z_48.2.2 h0 2) (fun k_51 => cal (fn_X6_readList F sh n z_48 h0 8) (fun z_52 r_53 => grd (okO sh n k_51 5) (cal (fn_X5_setFunction F sh n z_52 k_51 v_16 3 r_53) (fun z_55 _ => lnk (z_55.2.2 h0 2) (fun k_58 => grd (okO sh n k_58 5) (cal (fn_X5_setFunction F sh n z_55 k_58 v_16 4 0) (fun z_59 _ => lnk (z_59.2.2 h0 2) (fun k_62 => grd (okO sh n k_62 5) (cal (fn_X5_setFunction F sh n z_59 k_62 v_16 6 0) (fun z_63 _ => fn_X6_readForeignFunctions_L16 F sh n h0 f_11 z_63 (p_9 + 1))))))))))))))))))))))))))))))))) else some (z_10, ())))
theorem fn_X6_readForeignFunctions_L16_s {F : Nat} {sh : Nat → Nat × Nat} {n : Nat} {h0 : Nat} {f_11 : Nat} {z_10 : St} {p_9 : Int32} {y : St × Unit} (h : fn_X6_readForeignFunctions_L16 F sh n h0 (f_11 + 1) z_10 p_9 = some y) : (lnk (z_10.2.2 h0 2) (fun k_12 => grd (okO sh n k_12 5) (if ((z_10.1 k_12 12) : Int32) ≤ p_9 then some (z_10, ()) else if ((z_10.1 h0 1) : Int32) = 0 then lt_ (64 + p_9) (fun v_16 => lnk (z_10.2.2 h0 2) (fun k_17 => cal (fn_X6_readShort F sh n z_10 h0) (fun z_18 r_19 => grd (okO sh n k_17 5) (cal (fn_X5_setFunction F sh n z_18 k_17 v_16 7 r_19) (fun z_21 _ => lnk (z_21.2.2 h0 2) (fun k_24 => cal (fn_X6_readByte F sh n z_21 h0) (fun z_25 r_26 => grd (okO sh n k_24 5) (cal (fn_X5_setFunction F sh n z_25 k_24 v_16 8 r_26) (fun z_28 _ => lnk (z_28.2.2 h0 2) (fun k_31 => cal (fn_X6_readNumber F sh n z_28 h0 0 7) (fun z_32 r_33 => grd (okO sh n k_31 5) (cal (fn_X5_setFunction F sh n z_32 k_31 v_16 0 r_33) (fun z_35 _ => lnk (z_35.2.2 h0 2) (fun k_38 => lnk (z_35.2.2 h0 2) (fun k_39 => grd (okO sh n k_39 5) (grd (okO sh n k_38 5) (cal (fn_X5_setFunction F sh n z_35 k_38 v_16 1 (z_35.1 k_39 4)) (fun z_41 _ => lnk (z_41.2.2 h0 2) (fun k_44 => cal (fn_X6_readList F sh n z_41 h0 8) (fun z_45 r_46 => grd (okO sh n k_44 5) (cal (fn_X5_setFunction F sh n z_45 k_44 v_16 2 r_46) (fun z_48 _ => lnk (z_48.2.2 h0 2) (fun k_51 => cal (fn_X6_readList F sh n z_48 h0 8) (fun z_52 r_53 => grd (okO sh n k_51 5) (cal (fn_X5_setFunction F sh n z_52 k_51 v_16 3 r_53) (fun z_55 _ => lnk (z_55.2.2 h0 2) (fun k_58 => grd (okO sh n k_58 5) (cal (fn_X5_setFunction F sh n z_55 k_58 v_16 4 0) (fun z_59 _ => lnk (z_59.2.2 h0 2) (fun k_62 => grd (okO sh n k_62 5) (cal (fn_X5_setFunction F sh n z_59 k_62 v_16 6 0) (fun z_63 _ => fn_X6_readForeignFunctions_L16 F sh n h0 f_11 z_63 (p_9 + 1))))))))))))))))))))))))))))))))) else some (z_10, ())))) = some y := h
def fn_X6_readForeignFunctions (F : Nat) (sh : Nat → Nat × Nat) (n : Nat) (z : St) (h0 : Nat) : Option (St × Unit) := grd (okO sh n h0 6) (lnk (z.2.2 h0 2) (fun k_2 => cal (fn_X6_readNumber F sh n z h0 0 32) (fun z_3 r_4 => grd (okO sh n k_2 5) (lt_ (si z_3 k_2 12 r_4) (fun z_8 => fn_X6_readForeignFunctions_L16 F sh n h0 F z_8 0)))))
set_option maxHeartbeats 4000000 in
set_option maxRecDepth 100000 in
theorem de_X6_readForeignFunctions (l : Launch) (dC : Nat → ClassId) (dI : Nat → Nat → Nat) (cy : Nat → ClassId) (a : Nat → Nat) (sh : Nat → Nat × Nat) (n sz : Nat) (F : Nat) (z : St) (h0 : Nat) {z8 : St} {r8 : Unit} (hf : fn_X6_readForeignFunctions F sh n z h0 = some (z8, r8)) : Met l yX6_readForeignFunctions wsX6_readForeignFunctions ({ frames := 4, cells := 0, slots := 0, locals := 93 }) (va_Pc [.ref (a h0)] (fun U => U.heap.size = sz ∧ va_P (dC, dI) vwCl (Wd cy a sh n z) U.heap ∧ va_K (dC, dI) vwCl (TYS cy) U ∧ va_D (fun _ => True) (Wd cy a sh n z) ∧ NK U)) (va_Qv (fun u : Unit => True) (fun u t => va_P (dC, dI) vwCl (Wd cy a sh n z8) t.heap ∧ va_K (dC, dI) vwCl (TYS cy) t ∧ va_D (va_A (Wd cy a sh n z) sz) (Wd cy a sh n z8)) (va_A (Wd cy a sh n z) sz)) 0 0 (va_A (Wd cy a sh n z) sz) := by
  refine Met.ofW (cc := cX6_readForeignFunctions) (maxL := 3) (ret := none) (by decide) rfl ?_
  intro p e s m args below meth c s₁ B hml hv
  obtain ⟨rfl, hsz, hP, hK, hD0, hN⟩ := hv
  have hx := B.exec
  have hb := B.bytes
  have hr := B.returns
  have hts := atoms_spec (ws := wsX6_readForeignFunctions) B.pre
  have hown : s.vm.findClass RX6 = some m.cls := findClass_of_methodNamed B.named
  have hlocks := B.notSynchronized
  subst hsz
  have hD := hD0.self (sz := s.heap.size)
  clear hD0
  generalize hAe : va_A (Wd cy a sh n z) s.heap.size = A at hD ⊢
  have hA : ∀ q : Nat, s.heap.size ≤ q → A q := fun q h => by rw [← hAe]; exact Or.inr h
  clear hAe
  have hS : va_S A s.heap s.heap [] := va_S.rf
  have hl := lv_entry ([.ref (a h0)]) (n := 3) (Nat.le_of_ble_eq_true rfl)
  rw [lg_entry_eq]
  generalize (lg_sl ([.ref (a h0)]) ++ List.replicate (3 - (lg_sl ([.ref (a h0)])).length) Slot.unset).toArray = ls at hl ⊢
  replace hl : lv_has ls 3 [(0, .ref (a h0))] := hl
  unfold fn_X6_readForeignFunctions at hf
  refine de_start hS hP (fun H locs hS hP => ?_)
  refine lv_aload_n hx hb dX6_readForeignFunctions_0 rfl (lv_at hl 0 rfl) ?_
  obtain ⟨g_1, hf⟩ := grd_some hf
  obtain ⟨kg_1, sg_1⟩ := okO_at g_1
  obtain ⟨k_2, ek_2, hf⟩ := lnk_some hf
  refine va_get (D := (dC, dI)) (ci := 6) (v := .ref (a k_2)) (C := RX6) (T := TX6) (N := 9) hx hb hts iwd_X6_readForeignFunctions_X6 hown hK hP h0 (Wd_ob kg_1 sg_1 (by decide)) rfl 2 (by decide) (hts _ md_X6_readForeignFunctions_1) (fun _ h9 => h9) (fl_q rfl ek_2) dX6_readForeignFunctions_1 ?_
  refine lv_aload_n hx hb dX6_readForeignFunctions_4 rfl (lv_at hl 0 rfl) ?_
  refine lv_iconst (v := 0) hx hb dX6_readForeignFunctions_5 (by decide) ?_
  refine lv_bipush (v := 32) hx hb dX6_readForeignFunctions_6 (by decide) ?_
  obtain ⟨z_3, r_4, hfc, hf⟩ := cal_some hf
  have hFc := de_free hD hS hA
  refine va_calli (va_runV (As := [.int 0, .int 32]) (rest := [.ref (a k_2)]) ⟨hx, hb, hml, hown, hts⟩ (de_X6_readNumber l dC dI cy a sh n H.size F z h0 0 32 hfc) (cwV 2 hts gX6_readForeignFunctions_X6_readNumber rfl rfl rfl (by decide +kernel) ⟨Nat.le_of_ble_eq_true rfl, Nat.le_of_ble_eq_true rfl⟩) ⟨fun a U g mk q => by obtain ⟨q0, q1, qP, qK, qD, qN⟩ := q; exact ⟨q0, q1, qP, va_K.moved (u := U) (U := U.calling g mk a) (Vm.Alike.refl U.vm) qK, qD, qN.same rfl⟩, va_recv hK hP (ci := 6) (q0 := h0) rfl (Wd_ob kg_1 sg_1 (by decide)), fun U hU hW => ⟨rfl, by rw [hU], by rw [hU]; exact hP, va_K.moved hW.alike hK, hD.weaken (fun _ _ _ _ => trivial), hN.warm hW⟩⟩ rfl rfl hl.1 rfl (lv_room (Nat.le_of_ble_eq_true rfl)) dX6_readForeignFunctions_8 ⟨Nat.le_of_ble_eq_true rfl, Nat.le_of_ble_eq_true rfl⟩) hS (fun q _ h => hFc q h) hFc (fun rr u t H_5 locs ht hvm hw hB hz1 hk1 hS2 => ?_)
  rw [hw]
  clear hw
  obtain ⟨hP1, -, hD1⟩ := hB
  rw [ht] at hP1
  replace hD := hD1.weaken (fun _ _ _ h => hFc _ h)
  replace hP := hP1
  replace hS := hS2
  clear hP1 hD1 hS2 hFc hfc hz1 hk1 hvm ht
  obtain ⟨g_6, hf⟩ := grd_some hf
  obtain ⟨kg_6, sg_6⟩ := okO_at g_6
  refine va_put (D := (dC, dI)) (ci := 5) (v := .int r_4) (ty := .int) (C := RX5) (T := TX5) (N := 15) hx hb hts iwd_X6_readForeignFunctions_X5 tyX5 tyX5_ok nmX5 hown hK hP hD hS k_2 (Wd_ob kg_6 sg_6 (by decide)) rfl 12 (by decide) (hts _ md_X6_readForeignFunctions_2) (fun _ h9 => h9) rfl (by decide +kernel) rfl rfl (by rw [fl_len]; decide) dX6_readForeignFunctions_11 (fun H_7 locs hP2 hD2 hS2 => ?_)
  rw [Wd_si sg_6 (by decide) rfl] at hP2 hD2
  obtain ⟨z_8, ez_8⟩ : ∃ w, w = si z_3 k_2 12 r_4 := ⟨_, rfl⟩
  rw [← ez_8] at hP2 hD2
  replace hf := lt_at ez_8 hf
  clear ez_8
  replace hP := hP2
  replace hD := hD2
  replace hS := hS2
  clear hP2 hD2 hS2
  refine lv_iconst (v := 0) hx hb dX6_readForeignFunctions_14 (by decide) ?_
  refine lv_istore_n (lv' := [(1, .int 0), (0, .ref (a h0))]) hx hb dX6_readForeignFunctions_15 rfl hl (by decide) rfl (fun ls hl2 => ?_)
  replace hl := hl2
  clear hl2
  have hl0 : lv_has ls 3 [(1, .int 0), (0, .ref (a h0))] := lv_sub hl [0, 1] rfl
  refine de_loop (h := 16) (fun (x : St × Int32) ls H locs => lv_has ls 3 [(1, .int x.2), (0, .ref (a h0))] ∧ va_P (dC, dI) vwCl (Wd cy a sh n x.1) H ∧ va_D A (Wd cy a sh n x.1) ∧ va_S A s.heap H locs) (fun f x => fn_X6_readForeignFunctions_L16 F sh n h0 f x.1 x.2) (z8, r8) ?_ (fun _ => rfl) F (z_8, 0) ls H_7 locs ⟨hl0, hP, hD, hS⟩ hf
  intro f_11 x ls H locs ih16 hI hf
  obtain ⟨z_10, p_9⟩ := x
  obtain ⟨hl2, hP2, hD2, hS2⟩ := hI
  replace hl : lv_has ls 3 [(1, .int p_9), (0, .ref (a h0))] := hl2
  replace hP := hP2
  replace hD := hD2
  replace hS := hS2
  clear hl2 hP2 hD2 hS2 hl0
  replace hf := fn_X6_readForeignFunctions_L16_s hf
  refine lv_iload_n hx hb dX6_readForeignFunctions_16 rfl (lv_at hl 0 rfl) ?_
  refine lv_aload_n hx hb dX6_readForeignFunctions_17 rfl (lv_at hl 1 rfl) ?_
  obtain ⟨k_12, ek_12, hf⟩ := lnk_some hf
  refine va_get (D := (dC, dI)) (ci := 6) (v := .ref (a k_12)) (C := RX6) (T := TX6) (N := 9) hx hb hts iwd_X6_readForeignFunctions_X6 hown hK hP h0 (Wd_ob kg_1 sg_1 (by decide)) rfl 2 (by decide) (hts _ md_X6_readForeignFunctions_1) (fun _ h9 => h9) (fl_q rfl ek_12) dX6_readForeignFunctions_18 ?_
  obtain ⟨g_13, hf⟩ := grd_some hf
  obtain ⟨kg_13, sg_13⟩ := okO_at g_13
  refine va_get (D := (dC, dI)) (ci := 5) (v := .int (z_10.1 k_12 12)) (C := RX5) (T := TX5) (N := 15) hx hb hts iwd_X6_readForeignFunctions_X5 hown hK hP k_12 (Wd_ob kg_13 sg_13 (by decide)) rfl 12 (by decide) (hts _ md_X6_readForeignFunctions_2) (fun _ h9 => h9) (fl_at (t := 0) rfl) dX6_readForeignFunctions_21 ?_
  refine lv_icmp_ge (tgt := 156) hx hb dX6_readForeignFunctions_24 (by decide) (fun c_14 => ?_) (fun c_14 => ?_)
  · skip
    rw [if_pos c_14] at hf
    obtain ⟨h8, h9⟩ := ret_some hf
    rw [h8]
    exact W.vret hx hb hr (fun t ht hW => ⟨⟨(), rfl, trivial, by rw [ht]; exact hP, va_K.moved hW.alike hK, hD⟩, hS.F ht⟩) hS.2.2 dX6_readForeignFunctions_156
  · skip
    rw [if_neg c_14] at hf
    refine lv_aload_n hx hb dX6_readForeignFunctions_27 rfl (lv_at hl 1 rfl) ?_
    refine va_get (D := (dC, dI)) (ci := 6) (v := .int (z_10.1 h0 1)) (C := RX6) (T := TX6) (N := 9) hx hb hts iwd_X6_readForeignFunctions_X6 hown hK hP h0 (Wd_ob kg_1 sg_1 (by decide)) rfl 1 (by decide) (hts _ md_X6_readForeignFunctions_3) (fun _ h9 => h9) (fl_at (t := 0) rfl) dX6_readForeignFunctions_28 ?_
    refine lv_if_ne (tgt := 156) hx hb dX6_readForeignFunctions_31 (by decide) (fun c_15 => ?_) (fun c_15 => ?_)
    · skip
      rw [if_neg c_15] at hf
      obtain ⟨h8, h9⟩ := ret_some hf
      rw [h8]
      exact W.vret hx hb hr (fun t ht hW => ⟨⟨(), rfl, trivial, by rw [ht]; exact hP, va_K.moved hW.alike hK, hD⟩, hS.F ht⟩) hS.2.2 dX6_readForeignFunctions_156
    · skip
      rw [if_pos c_15] at hf
      refine lv_bipush (v := 64) hx hb dX6_readForeignFunctions_34 (by decide) ?_
      refine lv_iload_n hx hb dX6_readForeignFunctions_36 rfl (lv_at hl 0 rfl) ?_
      refine lv_iadd hx hb dX6_readForeignFunctions_37 ?_
      refine lv_topi (fun v_16 ev_16 => ?_)
      replace hf := lt_at ev_16 hf
      clear ev_16
      refine lv_istore_n (lv' := [(2, .int v_16), (1, .int p_9), (0, .ref (a h0))]) hx hb dX6_readForeignFunctions_38 rfl hl (by decide) rfl (fun ls hl2 => ?_)
      replace hl := hl2
      clear hl2
      refine lv_aload_n hx hb dX6_readForeignFunctions_39 rfl (lv_at hl 2 rfl) ?_
      obtain ⟨k_17, ek_17, hf⟩ := lnk_some hf
      refine va_get (D := (dC, dI)) (ci := 6) (v := .ref (a k_17)) (C := RX6) (T := TX6) (N := 9) hx hb hts iwd_X6_readForeignFunctions_X6 hown hK hP h0 (Wd_ob kg_1 sg_1 (by decide)) rfl 2 (by decide) (hts _ md_X6_readForeignFunctions_1) (fun _ h9 => h9) (fl_q rfl ek_17) dX6_readForeignFunctions_40 ?_
      refine lv_iload_n hx hb dX6_readForeignFunctions_43 rfl (lv_at hl 0 rfl) ?_
      refine lv_bipush (v := 7) hx hb dX6_readForeignFunctions_44 (by decide) ?_
      refine lv_aload_n hx hb dX6_readForeignFunctions_46 rfl (lv_at hl 2 rfl) ?_
      obtain ⟨z_18, r_19, hfc, hf⟩ := cal_some hf
      have hFc := de_free hD hS hA
      refine va_calli (va_runV (As := []) (rest := [.int 7, .int v_16, .ref (a k_17)]) ⟨hx, hb, hml, hown, hts⟩ (de_X6_readShort l dC dI cy a sh n H.size F z_10 h0 hfc) (cwV 0 hts gX6_readForeignFunctions_X6_readShort rfl rfl rfl (by decide +kernel) ⟨Nat.le_of_ble_eq_true rfl, Nat.le_of_ble_eq_true rfl⟩) ⟨fun a U g mk q => by obtain ⟨q0, q1, qP, qK, qD, qN⟩ := q; exact ⟨q0, q1, qP, va_K.moved (u := U) (U := U.calling g mk a) (Vm.Alike.refl U.vm) qK, qD, qN.same rfl⟩, va_recv hK hP (ci := 6) (q0 := h0) rfl (Wd_ob kg_1 sg_1 (by decide)), fun U hU hW => ⟨rfl, by rw [hU], by rw [hU]; exact hP, va_K.moved hW.alike hK, hD.weaken (fun _ _ _ _ => trivial), hN.warm hW⟩⟩ rfl rfl hl.1 rfl (lv_room (Nat.le_of_ble_eq_true rfl)) dX6_readForeignFunctions_47 ⟨Nat.le_of_ble_eq_true rfl, Nat.le_of_ble_eq_true rfl⟩) hS (fun q _ h => hFc q h) hFc (fun rr u t H_20 locs ht hvm hw hB hz1 hk1 hS2 => ?_)
      rw [hw]
      clear hw
      obtain ⟨hP1, -, hD1⟩ := hB
      rw [ht] at hP1
      replace hD := hD1.weaken (fun _ _ _ h => hFc _ h)
      replace hP := hP1
      replace hS := hS2
      clear hP1 hD1 hS2 hFc hfc hz1 hk1 hvm ht
      obtain ⟨g_22, hf⟩ := grd_some hf
      obtain ⟨kg_22, sg_22⟩ := okO_at g_22
      obtain ⟨z_21, _u, hfc, hf⟩ := cal_some hf
      have hFc := de_free hD hS hA
      refine va_callv (va_runV (As := [.int v_16, .int 7, .int r_19]) (rest := []) ⟨hx, hb, hml, hown, hts⟩ (de_X5_setFunction l dC dI cy a sh n H_20.size F z_18 k_17 v_16 7 r_19 hfc) (cwV 3 hts gX6_readForeignFunctions_X5_setFunction rfl rfl rfl (by decide +kernel) ⟨Nat.le_of_ble_eq_true rfl, Nat.le_of_ble_eq_true rfl⟩) ⟨fun a U g mk q => by obtain ⟨q0, q1, qP, qK, qD, qN⟩ := q; exact ⟨q0, q1, qP, va_K.moved (u := U) (U := U.calling g mk a) (Vm.Alike.refl U.vm) qK, qD, qN.same rfl⟩, va_recv hK hP (ci := 5) (q0 := k_17) rfl (Wd_ob kg_22 sg_22 (by decide)), fun U hU hW => ⟨rfl, by rw [hU], by rw [hU]; exact hP, va_K.moved hW.alike hK, hD.weaken (fun _ _ _ _ => trivial), hN.warm hW⟩⟩ rfl rfl hl.1 rfl (lv_room (Nat.le_of_ble_eq_true rfl)) dX6_readForeignFunctions_50 ⟨Nat.le_of_ble_eq_true rfl, Nat.le_of_ble_eq_true rfl⟩) hS (fun q _ h => hFc q h) hFc (fun u t H_23 locs ht hvm hw hB hz1 hk1 hS2 => ?_)
      obtain ⟨hP1, -, hD1⟩ := hB
      rw [ht] at hP1
      replace hD := hD1.weaken (fun _ _ _ h => hFc _ h)
      replace hP := hP1
      replace hS := hS2
      clear hP1 hD1 hS2 hFc hfc hz1 hk1 hvm ht
      refine lv_aload_n hx hb dX6_readForeignFunctions_53 rfl (lv_at hl 2 rfl) ?_
      obtain ⟨k_24, ek_24, hf⟩ := lnk_some hf
      refine va_get (D := (dC, dI)) (ci := 6) (v := .ref (a k_24)) (C := RX6) (T := TX6) (N := 9) hx hb hts iwd_X6_readForeignFunctions_X6 hown hK hP h0 (Wd_ob kg_1 sg_1 (by decide)) rfl 2 (by decide) (hts _ md_X6_readForeignFunctions_1) (fun _ h9 => h9) (fl_q rfl ek_24) dX6_readForeignFunctions_54 ?_
      refine lv_iload_n hx hb dX6_readForeignFunctions_57 rfl (lv_at hl 0 rfl) ?_
      refine lv_bipush (v := 8) hx hb dX6_readForeignFunctions_58 (by decide) ?_
      refine lv_aload_n hx hb dX6_readForeignFunctions_60 rfl (lv_at hl 2 rfl) ?_
      obtain ⟨z_25, r_26, hfc, hf⟩ := cal_some hf
      have hFc := de_free hD hS hA
      refine va_calli (va_runV (As := []) (rest := [.int 8, .int v_16, .ref (a k_24)]) ⟨hx, hb, hml, hown, hts⟩ (de_X6_readByte l dC dI cy a sh n H_23.size F z_21 h0 hfc) (cwV 0 hts gX6_readForeignFunctions_X6_readByte rfl rfl rfl (by decide +kernel) ⟨Nat.le_of_ble_eq_true rfl, Nat.le_of_ble_eq_true rfl⟩) ⟨fun a U g mk q => by obtain ⟨q0, q1, qP, qK, qD, qN⟩ := q; exact ⟨q0, q1, qP, va_K.moved (u := U) (U := U.calling g mk a) (Vm.Alike.refl U.vm) qK, qD, qN.same rfl⟩, va_recv hK hP (ci := 6) (q0 := h0) rfl (Wd_ob kg_1 sg_1 (by decide)), fun U hU hW => ⟨rfl, by rw [hU], by rw [hU]; exact hP, va_K.moved hW.alike hK, hD.weaken (fun _ _ _ _ => trivial), hN.warm hW⟩⟩ rfl rfl hl.1 rfl (lv_room (Nat.le_of_ble_eq_true rfl)) dX6_readForeignFunctions_61 ⟨Nat.le_of_ble_eq_true rfl, Nat.le_of_ble_eq_true rfl⟩) hS (fun q _ h => hFc q h) hFc (fun rr u t H_27 locs ht hvm hw hB hz1 hk1 hS2 => ?_)
      rw [hw]
      clear hw
      obtain ⟨hP1, -, hD1⟩ := hB
      rw [ht] at hP1
      replace hD := hD1.weaken (fun _ _ _ h => hFc _ h)
      replace hP := hP1
      replace hS := hS2
      clear hP1 hD1 hS2 hFc hfc hz1 hk1 hvm ht
      obtain ⟨g_29, hf⟩ := grd_some hf
      obtain ⟨kg_29, sg_29⟩ := okO_at g_29
      obtain ⟨z_28, _u, hfc, hf⟩ := cal_some hf
      have hFc := de_free hD hS hA
      refine va_callv (va_runV (As := [.int v_16, .int 8, .int r_26]) (rest := []) ⟨hx, hb, hml, hown, hts⟩ (de_X5_setFunction l dC dI cy a sh n H_27.size F z_25 k_24 v_16 8 r_26 hfc) (cwV 3 hts gX6_readForeignFunctions_X5_setFunction rfl rfl rfl (by decide +kernel) ⟨Nat.le_of_ble_eq_true rfl, Nat.le_of_ble_eq_true rfl⟩) ⟨fun a U g mk q => by obtain ⟨q0, q1, qP, qK, qD, qN⟩ := q; exact ⟨q0, q1, qP, va_K.moved (u := U) (U := U.calling g mk a) (Vm.Alike.refl U.vm) qK, qD, qN.same rfl⟩, va_recv hK hP (ci := 5) (q0 := k_24) rfl (Wd_ob kg_29 sg_29 (by decide)), fun U hU hW => ⟨rfl, by rw [hU], by rw [hU]; exact hP, va_K.moved hW.alike hK, hD.weaken (fun _ _ _ _ => trivial), hN.warm hW⟩⟩ rfl rfl hl.1 rfl (lv_room (Nat.le_of_ble_eq_true rfl)) dX6_readForeignFunctions_64 ⟨Nat.le_of_ble_eq_true rfl, Nat.le_of_ble_eq_true rfl⟩) hS (fun q _ h => hFc q h) hFc (fun u t H_30 locs ht hvm hw hB hz1 hk1 hS2 => ?_)
      obtain ⟨hP1, -, hD1⟩ := hB
      rw [ht] at hP1
      replace hD := hD1.weaken (fun _ _ _ h => hFc _ h)
      replace hP := hP1
      replace hS := hS2
      clear hP1 hD1 hS2 hFc hfc hz1 hk1 hvm ht
      refine lv_aload_n hx hb dX6_readForeignFunctions_67 rfl (lv_at hl 2 rfl) ?_
      obtain ⟨k_31, ek_31, hf⟩ := lnk_some hf
      refine va_get (D := (dC, dI)) (ci := 6) (v := .ref (a k_31)) (C := RX6) (T := TX6) (N := 9) hx hb hts iwd_X6_readForeignFunctions_X6 hown hK hP h0 (Wd_ob kg_1 sg_1 (by decide)) rfl 2 (by decide) (hts _ md_X6_readForeignFunctions_1) (fun _ h9 => h9) (fl_q rfl ek_31) dX6_readForeignFunctions_68 ?_
      refine lv_iload_n hx hb dX6_readForeignFunctions_71 rfl (lv_at hl 0 rfl) ?_
      refine lv_iconst (v := 0) hx hb dX6_readForeignFunctions_72 (by decide) ?_
      refine lv_aload_n hx hb dX6_readForeignFunctions_73 rfl (lv_at hl 2 rfl) ?_
      refine lv_iconst (v := 0) hx hb dX6_readForeignFunctions_74 (by decide) ?_
      refine lv_bipush (v := 7) hx hb dX6_readForeignFunctions_75 (by decide) ?_
      obtain ⟨z_32, r_33, hfc, hf⟩ := cal_some hf
      have hFc := de_free hD hS hA
      refine va_calli (va_runV (As := [.int 0, .int 7]) (rest := [.int 0, .int v_16, .ref (a k_31)]) ⟨hx, hb, hml, hown, hts⟩ (de_X6_readNumber l dC dI cy a sh n H_30.size F z_28 h0 0 7 hfc) (cwV 2 hts gX6_readForeignFunctions_X6_readNumber rfl rfl rfl (by decide +kernel) ⟨Nat.le_of_ble_eq_true rfl, Nat.le_of_ble_eq_true rfl⟩) ⟨fun a U g mk q => by obtain ⟨q0, q1, qP, qK, qD, qN⟩ := q; exact ⟨q0, q1, qP, va_K.moved (u := U) (U := U.calling g mk a) (Vm.Alike.refl U.vm) qK, qD, qN.same rfl⟩, va_recv hK hP (ci := 6) (q0 := h0) rfl (Wd_ob kg_1 sg_1 (by decide)), fun U hU hW => ⟨rfl, by rw [hU], by rw [hU]; exact hP, va_K.moved hW.alike hK, hD.weaken (fun _ _ _ _ => trivial), hN.warm hW⟩⟩ rfl rfl hl.1 rfl (lv_room (Nat.le_of_ble_eq_true rfl)) dX6_readForeignFunctions_77 ⟨Nat.le_of_ble_eq_true rfl, Nat.le_of_ble_eq_true rfl⟩) hS (fun q _ h => hFc q h) hFc (fun rr u t H_34 locs ht hvm hw hB hz1 hk1 hS2 => ?_)
      rw [hw]
      clear hw
      obtain ⟨hP1, -, hD1⟩ := hB
      rw [ht] at hP1
      replace hD := hD1.weaken (fun _ _ _ h => hFc _ h)
      replace hP := hP1
      replace hS := hS2
      clear hP1 hD1 hS2 hFc hfc hz1 hk1 hvm ht
      obtain ⟨g_36, hf⟩ := grd_some hf
      obtain ⟨kg_36, sg_36⟩ := okO_at g_36
      obtain ⟨z_35, _u, hfc, hf⟩ := cal_some hf
      have hFc := de_free hD hS hA
      refine va_callv (va_runV (As := [.int v_16, .int 0, .int r_33]) (rest := []) ⟨hx, hb, hml, hown, hts⟩ (de_X5_setFunction l dC dI cy a sh n H_34.size F z_32 k_31 v_16 0 r_33 hfc) (cwV 3 hts gX6_readForeignFunctions_X5_setFunction rfl rfl rfl (by decide +kernel) ⟨Nat.le_of_ble_eq_true rfl, Nat.le_of_ble_eq_true rfl⟩) ⟨fun a U g mk q => by obtain ⟨q0, q1, qP, qK, qD, qN⟩ := q; exact ⟨q0, q1, qP, va_K.moved (u := U) (U := U.calling g mk a) (Vm.Alike.refl U.vm) qK, qD, qN.same rfl⟩, va_recv hK hP (ci := 5) (q0 := k_31) rfl (Wd_ob kg_36 sg_36 (by decide)), fun U hU hW => ⟨rfl, by rw [hU], by rw [hU]; exact hP, va_K.moved hW.alike hK, hD.weaken (fun _ _ _ _ => trivial), hN.warm hW⟩⟩ rfl rfl hl.1 rfl (lv_room (Nat.le_of_ble_eq_true rfl)) dX6_readForeignFunctions_80 ⟨Nat.le_of_ble_eq_true rfl, Nat.le_of_ble_eq_true rfl⟩) hS (fun q _ h => hFc q h) hFc (fun u t H_37 locs ht hvm hw hB hz1 hk1 hS2 => ?_)
      obtain ⟨hP1, -, hD1⟩ := hB
      rw [ht] at hP1
      replace hD := hD1.weaken (fun _ _ _ h => hFc _ h)
      replace hP := hP1
      replace hS := hS2
      clear hP1 hD1 hS2 hFc hfc hz1 hk1 hvm ht
      refine lv_aload_n hx hb dX6_readForeignFunctions_83 rfl (lv_at hl 2 rfl) ?_
      obtain ⟨k_38, ek_38, hf⟩ := lnk_some hf
      refine va_get (D := (dC, dI)) (ci := 6) (v := .ref (a k_38)) (C := RX6) (T := TX6) (N := 9) hx hb hts iwd_X6_readForeignFunctions_X6 hown hK hP h0 (Wd_ob kg_1 sg_1 (by decide)) rfl 2 (by decide) (hts _ md_X6_readForeignFunctions_1) (fun _ h9 => h9) (fl_q rfl ek_38) dX6_readForeignFunctions_84 ?_
      refine lv_iload_n hx hb dX6_readForeignFunctions_87 rfl (lv_at hl 0 rfl) ?_
      refine lv_iconst (v := 1) hx hb dX6_readForeignFunctions_88 (by decide) ?_
      refine lv_aload_n hx hb dX6_readForeignFunctions_89 rfl (lv_at hl 2 rfl) ?_
      obtain ⟨k_39, ek_39, hf⟩ := lnk_some hf
      refine va_get (D := (dC, dI)) (ci := 6) (v := .ref (a k_39)) (C := RX6) (T := TX6) (N := 9) hx hb hts iwd_X6_readForeignFunctions_X6 hown hK hP h0 (Wd_ob kg_1 sg_1 (by decide)) rfl 2 (by decide) (hts _ md_X6_readForeignFunctions_1) (fun _ h9 => h9) (fl_q rfl ek_39) dX6_readForeignFunctions_90 ?_
      obtain ⟨g_40, hf⟩ := grd_some hf
      obtain ⟨kg_40, sg_40⟩ := okO_at g_40
      refine va_get (D := (dC, dI)) (ci := 5) (v := .int (z_35.1 k_39 4)) (C := RX5) (T := TX5) (N := 15) hx hb hts iwd_X6_readForeignFunctions_X5 hown hK hP k_39 (Wd_ob kg_40 sg_40 (by decide)) rfl 4 (by decide) (hts _ md_X6_readForeignFunctions_4) (fun _ h9 => h9) (fl_at (t := 0) rfl) dX6_readForeignFunctions_93 ?_
      obtain ⟨g_42, hf⟩ := grd_some hf
      obtain ⟨kg_42, sg_42⟩ := okO_at g_42
      obtain ⟨z_41, _u, hfc, hf⟩ := cal_some hf
      have hFc := de_free hD hS hA
      refine va_callv (va_runV (As := [.int v_16, .int 1, .int (z_35.1 k_39 4)]) (rest := []) ⟨hx, hb, hml, hown, hts⟩ (de_X5_setFunction l dC dI cy a sh n H_37.size F z_35 k_38 v_16 1 (z_35.1 k_39 4) hfc) (cwV 3 hts gX6_readForeignFunctions_X5_setFunction rfl rfl rfl (by decide +kernel) ⟨Nat.le_of_ble_eq_true rfl, Nat.le_of_ble_eq_true rfl⟩) ⟨fun a U g mk q => by obtain ⟨q0, q1, qP, qK, qD, qN⟩ := q; exact ⟨q0, q1, qP, va_K.moved (u := U) (U := U.calling g mk a) (Vm.Alike.refl U.vm) qK, qD, qN.same rfl⟩, va_recv hK hP (ci := 5) (q0 := k_38) rfl (Wd_ob kg_42 sg_42 (by decide)), fun U hU hW => ⟨rfl, by rw [hU], by rw [hU]; exact hP, va_K.moved hW.alike hK, hD.weaken (fun _ _ _ _ => trivial), hN.warm hW⟩⟩ rfl rfl hl.1 rfl (lv_room (Nat.le_of_ble_eq_true rfl)) dX6_readForeignFunctions_96 ⟨Nat.le_of_ble_eq_true rfl, Nat.le_of_ble_eq_true rfl⟩) hS (fun q _ h => hFc q h) hFc (fun u t H_43 locs ht hvm hw hB hz1 hk1 hS2 => ?_)
      obtain ⟨hP1, -, hD1⟩ := hB
      rw [ht] at hP1
      replace hD := hD1.weaken (fun _ _ _ h => hFc _ h)
      replace hP := hP1
      replace hS := hS2
      clear hP1 hD1 hS2 hFc hfc hz1 hk1 hvm ht
      refine lv_aload_n hx hb dX6_readForeignFunctions_99 rfl (lv_at hl 2 rfl) ?_
      obtain ⟨k_44, ek_44, hf⟩ := lnk_some hf
      refine va_get (D := (dC, dI)) (ci := 6) (v := .ref (a k_44)) (C := RX6) (T := TX6) (N := 9) hx hb hts iwd_X6_readForeignFunctions_X6 hown hK hP h0 (Wd_ob kg_1 sg_1 (by decide)) rfl 2 (by decide) (hts _ md_X6_readForeignFunctions_1) (fun _ h9 => h9) (fl_q rfl ek_44) dX6_readForeignFunctions_100 ?_
      refine lv_iload_n hx hb dX6_readForeignFunctions_103 rfl (lv_at hl 0 rfl) ?_
      refine lv_iconst (v := 2) hx hb dX6_readForeignFunctions_104 (by decide) ?_
      refine lv_aload_n hx hb dX6_readForeignFunctions_105 rfl (lv_at hl 2 rfl) ?_
      refine lv_bipush (v := 8) hx hb dX6_readForeignFunctions_106 (by decide) ?_
      obtain ⟨z_45, r_46, hfc, hf⟩ := cal_some hf
      have hFc := de_free hD hS hA
      refine va_calli (va_runV (As := [.int 8]) (rest := [.int 2, .int v_16, .ref (a k_44)]) ⟨hx, hb, hml, hown, hts⟩ (de_X6_readList l dC dI cy a sh n H_43.size F z_41 h0 8 hfc) (cwV 1 hts gX6_readForeignFunctions_X6_readList rfl rfl rfl (by decide +kernel) ⟨Nat.le_of_ble_eq_true rfl, Nat.le_of_ble_eq_true rfl⟩) ⟨fun a U g mk q => by obtain ⟨q0, q1, qP, qK, qD, qN⟩ := q; exact ⟨q0, q1, qP, va_K.moved (u := U) (U := U.calling g mk a) (Vm.Alike.refl U.vm) qK, qD, qN.same rfl⟩, va_recv hK hP (ci := 6) (q0 := h0) rfl (Wd_ob kg_1 sg_1 (by decide)), fun U hU hW => ⟨rfl, by rw [hU], by rw [hU]; exact hP, va_K.moved hW.alike hK, hD.weaken (fun _ _ _ _ => trivial), hN.warm hW⟩⟩ rfl rfl hl.1 rfl (lv_room (Nat.le_of_ble_eq_true rfl)) dX6_readForeignFunctions_108 ⟨Nat.le_of_ble_eq_true rfl, Nat.le_of_ble_eq_true rfl⟩) hS (fun q _ h => hFc q h) hFc (fun rr u t H_47 locs ht hvm hw hB hz1 hk1 hS2 => ?_)
      rw [hw]
      clear hw
      obtain ⟨hP1, -, hD1⟩ := hB
      rw [ht] at hP1
      replace hD := hD1.weaken (fun _ _ _ h => hFc _ h)
      replace hP := hP1
      replace hS := hS2
      clear hP1 hD1 hS2 hFc hfc hz1 hk1 hvm ht
      obtain ⟨g_49, hf⟩ := grd_some hf
      obtain ⟨kg_49, sg_49⟩ := okO_at g_49
      obtain ⟨z_48, _u, hfc, hf⟩ := cal_some hf
      have hFc := de_free hD hS hA
      refine va_callv (va_runV (As := [.int v_16, .int 2, .int r_46]) (rest := []) ⟨hx, hb, hml, hown, hts⟩ (de_X5_setFunction l dC dI cy a sh n H_47.size F z_45 k_44 v_16 2 r_46 hfc) (cwV 3 hts gX6_readForeignFunctions_X5_setFunction rfl rfl rfl (by decide +kernel) ⟨Nat.le_of_ble_eq_true rfl, Nat.le_of_ble_eq_true rfl⟩) ⟨fun a U g mk q => by obtain ⟨q0, q1, qP, qK, qD, qN⟩ := q; exact ⟨q0, q1, qP, va_K.moved (u := U) (U := U.calling g mk a) (Vm.Alike.refl U.vm) qK, qD, qN.same rfl⟩, va_recv hK hP (ci := 5) (q0 := k_44) rfl (Wd_ob kg_49 sg_49 (by decide)), fun U hU hW => ⟨rfl, by rw [hU], by rw [hU]; exact hP, va_K.moved hW.alike hK, hD.weaken (fun _ _ _ _ => trivial), hN.warm hW⟩⟩ rfl rfl hl.1 rfl (lv_room (Nat.le_of_ble_eq_true rfl)) dX6_readForeignFunctions_111 ⟨Nat.le_of_ble_eq_true rfl, Nat.le_of_ble_eq_true rfl⟩) hS (fun q _ h => hFc q h) hFc (fun u t H_50 locs ht hvm hw hB hz1 hk1 hS2 => ?_)
      obtain ⟨hP1, -, hD1⟩ := hB
      rw [ht] at hP1
      replace hD := hD1.weaken (fun _ _ _ h => hFc _ h)
      replace hP := hP1
      replace hS := hS2
      clear hP1 hD1 hS2 hFc hfc hz1 hk1 hvm ht
      refine lv_aload_n hx hb dX6_readForeignFunctions_114 rfl (lv_at hl 2 rfl) ?_
      obtain ⟨k_51, ek_51, hf⟩ := lnk_some hf
      refine va_get (D := (dC, dI)) (ci := 6) (v := .ref (a k_51)) (C := RX6) (T := TX6) (N := 9) hx hb hts iwd_X6_readForeignFunctions_X6 hown hK hP h0 (Wd_ob kg_1 sg_1 (by decide)) rfl 2 (by decide) (hts _ md_X6_readForeignFunctions_1) (fun _ h9 => h9) (fl_q rfl ek_51) dX6_readForeignFunctions_115 ?_
      refine lv_iload_n hx hb dX6_readForeignFunctions_118 rfl (lv_at hl 0 rfl) ?_
      refine lv_iconst (v := 3) hx hb dX6_readForeignFunctions_119 (by decide) ?_
      refine lv_aload_n hx hb dX6_readForeignFunctions_120 rfl (lv_at hl 2 rfl) ?_
      refine lv_bipush (v := 8) hx hb dX6_readForeignFunctions_121 (by decide) ?_
      obtain ⟨z_52, r_53, hfc, hf⟩ := cal_some hf
      have hFc := de_free hD hS hA
      refine va_calli (va_runV (As := [.int 8]) (rest := [.int 3, .int v_16, .ref (a k_51)]) ⟨hx, hb, hml, hown, hts⟩ (de_X6_readList l dC dI cy a sh n H_50.size F z_48 h0 8 hfc) (cwV 1 hts gX6_readForeignFunctions_X6_readList rfl rfl rfl (by decide +kernel) ⟨Nat.le_of_ble_eq_true rfl, Nat.le_of_ble_eq_true rfl⟩) ⟨fun a U g mk q => by obtain ⟨q0, q1, qP, qK, qD, qN⟩ := q; exact ⟨q0, q1, qP, va_K.moved (u := U) (U := U.calling g mk a) (Vm.Alike.refl U.vm) qK, qD, qN.same rfl⟩, va_recv hK hP (ci := 6) (q0 := h0) rfl (Wd_ob kg_1 sg_1 (by decide)), fun U hU hW => ⟨rfl, by rw [hU], by rw [hU]; exact hP, va_K.moved hW.alike hK, hD.weaken (fun _ _ _ _ => trivial), hN.warm hW⟩⟩ rfl rfl hl.1 rfl (lv_room (Nat.le_of_ble_eq_true rfl)) dX6_readForeignFunctions_123 ⟨Nat.le_of_ble_eq_true rfl, Nat.le_of_ble_eq_true rfl⟩) hS (fun q _ h => hFc q h) hFc (fun rr u t H_54 locs ht hvm hw hB hz1 hk1 hS2 => ?_)
      rw [hw]
      clear hw
      obtain ⟨hP1, -, hD1⟩ := hB
      rw [ht] at hP1
      replace hD := hD1.weaken (fun _ _ _ h => hFc _ h)
      replace hP := hP1
      replace hS := hS2
      clear hP1 hD1 hS2 hFc hfc hz1 hk1 hvm ht
      obtain ⟨g_56, hf⟩ := grd_some hf
      obtain ⟨kg_56, sg_56⟩ := okO_at g_56
      obtain ⟨z_55, _u, hfc, hf⟩ := cal_some hf
      have hFc := de_free hD hS hA
      refine va_callv (va_runV (As := [.int v_16, .int 3, .int r_53]) (rest := []) ⟨hx, hb, hml, hown, hts⟩ (de_X5_setFunction l dC dI cy a sh n H_54.size F z_52 k_51 v_16 3 r_53 hfc) (cwV 3 hts gX6_readForeignFunctions_X5_setFunction rfl rfl rfl (by decide +kernel) ⟨Nat.le_of_ble_eq_true rfl, Nat.le_of_ble_eq_true rfl⟩) ⟨fun a U g mk q => by obtain ⟨q0, q1, qP, qK, qD, qN⟩ := q; exact ⟨q0, q1, qP, va_K.moved (u := U) (U := U.calling g mk a) (Vm.Alike.refl U.vm) qK, qD, qN.same rfl⟩, va_recv hK hP (ci := 5) (q0 := k_51) rfl (Wd_ob kg_56 sg_56 (by decide)), fun U hU hW => ⟨rfl, by rw [hU], by rw [hU]; exact hP, va_K.moved hW.alike hK, hD.weaken (fun _ _ _ _ => trivial), hN.warm hW⟩⟩ rfl rfl hl.1 rfl (lv_room (Nat.le_of_ble_eq_true rfl)) dX6_readForeignFunctions_126 ⟨Nat.le_of_ble_eq_true rfl, Nat.le_of_ble_eq_true rfl⟩) hS (fun q _ h => hFc q h) hFc (fun u t H_57 locs ht hvm hw hB hz1 hk1 hS2 => ?_)
      obtain ⟨hP1, -, hD1⟩ := hB
      rw [ht] at hP1
      replace hD := hD1.weaken (fun _ _ _ h => hFc _ h)
      replace hP := hP1
      replace hS := hS2
      clear hP1 hD1 hS2 hFc hfc hz1 hk1 hvm ht
      refine lv_aload_n hx hb dX6_readForeignFunctions_129 rfl (lv_at hl 2 rfl) ?_
      obtain ⟨k_58, ek_58, hf⟩ := lnk_some hf
      refine va_get (D := (dC, dI)) (ci := 6) (v := .ref (a k_58)) (C := RX6) (T := TX6) (N := 9) hx hb hts iwd_X6_readForeignFunctions_X6 hown hK hP h0 (Wd_ob kg_1 sg_1 (by decide)) rfl 2 (by decide) (hts _ md_X6_readForeignFunctions_1) (fun _ h9 => h9) (fl_q rfl ek_58) dX6_readForeignFunctions_130 ?_
      refine lv_iload_n hx hb dX6_readForeignFunctions_133 rfl (lv_at hl 0 rfl) ?_
      refine lv_iconst (v := 4) hx hb dX6_readForeignFunctions_134 (by decide) ?_
      refine lv_iconst (v := 0) hx hb dX6_readForeignFunctions_135 (by decide) ?_
      obtain ⟨g_60, hf⟩ := grd_some hf
      obtain ⟨kg_60, sg_60⟩ := okO_at g_60
      obtain ⟨z_59, _u, hfc, hf⟩ := cal_some hf
      have hFc := de_free hD hS hA
      refine va_callv (va_runV (As := [.int v_16, .int 4, .int 0]) (rest := []) ⟨hx, hb, hml, hown, hts⟩ (de_X5_setFunction l dC dI cy a sh n H_57.size F z_55 k_58 v_16 4 0 hfc) (cwV 3 hts gX6_readForeignFunctions_X5_setFunction rfl rfl rfl (by decide +kernel) ⟨Nat.le_of_ble_eq_true rfl, Nat.le_of_ble_eq_true rfl⟩) ⟨fun a U g mk q => by obtain ⟨q0, q1, qP, qK, qD, qN⟩ := q; exact ⟨q0, q1, qP, va_K.moved (u := U) (U := U.calling g mk a) (Vm.Alike.refl U.vm) qK, qD, qN.same rfl⟩, va_recv hK hP (ci := 5) (q0 := k_58) rfl (Wd_ob kg_60 sg_60 (by decide)), fun U hU hW => ⟨rfl, by rw [hU], by rw [hU]; exact hP, va_K.moved hW.alike hK, hD.weaken (fun _ _ _ _ => trivial), hN.warm hW⟩⟩ rfl rfl hl.1 rfl (lv_room (Nat.le_of_ble_eq_true rfl)) dX6_readForeignFunctions_136 ⟨Nat.le_of_ble_eq_true rfl, Nat.le_of_ble_eq_true rfl⟩) hS (fun q _ h => hFc q h) hFc (fun u t H_61 locs ht hvm hw hB hz1 hk1 hS2 => ?_)
      obtain ⟨hP1, -, hD1⟩ := hB
      rw [ht] at hP1
      replace hD := hD1.weaken (fun _ _ _ h => hFc _ h)
      replace hP := hP1
      replace hS := hS2
      clear hP1 hD1 hS2 hFc hfc hz1 hk1 hvm ht
      refine lv_aload_n hx hb dX6_readForeignFunctions_139 rfl (lv_at hl 2 rfl) ?_
      obtain ⟨k_62, ek_62, hf⟩ := lnk_some hf
      refine va_get (D := (dC, dI)) (ci := 6) (v := .ref (a k_62)) (C := RX6) (T := TX6) (N := 9) hx hb hts iwd_X6_readForeignFunctions_X6 hown hK hP h0 (Wd_ob kg_1 sg_1 (by decide)) rfl 2 (by decide) (hts _ md_X6_readForeignFunctions_1) (fun _ h9 => h9) (fl_q rfl ek_62) dX6_readForeignFunctions_140 ?_
      refine lv_iload_n hx hb dX6_readForeignFunctions_143 rfl (lv_at hl 0 rfl) ?_
      refine lv_bipush (v := 6) hx hb dX6_readForeignFunctions_144 (by decide) ?_
      refine lv_iconst (v := 0) hx hb dX6_readForeignFunctions_146 (by decide) ?_
      obtain ⟨g_64, hf⟩ := grd_some hf
      obtain ⟨kg_64, sg_64⟩ := okO_at g_64
      obtain ⟨z_63, _u, hfc, hf⟩ := cal_some hf
      have hFc := de_free hD hS hA
      refine va_callv (va_runV (As := [.int v_16, .int 6, .int 0]) (rest := []) ⟨hx, hb, hml, hown, hts⟩ (de_X5_setFunction l dC dI cy a sh n H_61.size F z_59 k_62 v_16 6 0 hfc) (cwV 3 hts gX6_readForeignFunctions_X5_setFunction rfl rfl rfl (by decide +kernel) ⟨Nat.le_of_ble_eq_true rfl, Nat.le_of_ble_eq_true rfl⟩) ⟨fun a U g mk q => by obtain ⟨q0, q1, qP, qK, qD, qN⟩ := q; exact ⟨q0, q1, qP, va_K.moved (u := U) (U := U.calling g mk a) (Vm.Alike.refl U.vm) qK, qD, qN.same rfl⟩, va_recv hK hP (ci := 5) (q0 := k_62) rfl (Wd_ob kg_64 sg_64 (by decide)), fun U hU hW => ⟨rfl, by rw [hU], by rw [hU]; exact hP, va_K.moved hW.alike hK, hD.weaken (fun _ _ _ _ => trivial), hN.warm hW⟩⟩ rfl rfl hl.1 rfl (lv_room (Nat.le_of_ble_eq_true rfl)) dX6_readForeignFunctions_147 ⟨Nat.le_of_ble_eq_true rfl, Nat.le_of_ble_eq_true rfl⟩) hS (fun q _ h => hFc q h) hFc (fun u t H_65 locs ht hvm hw hB hz1 hk1 hS2 => ?_)
      obtain ⟨hP1, -, hD1⟩ := hB
      rw [ht] at hP1
      replace hD := hD1.weaken (fun _ _ _ h => hFc _ h)
      replace hP := hP1
      replace hS := hS2
      clear hP1 hD1 hS2 hFc hfc hz1 hk1 hvm ht
      refine lv_iinc (v := (p_9 + 1)) (lv' := [(1, .int (p_9 + 1)), (2, .int v_16), (0, .ref (a h0))]) hx hb dX6_readForeignFunctions_150 hl (k := 1) rfl rfl (by decide) rfl (fun ls hl2 => ?_)
      replace hl := hl2
      clear hl2
      refine lv_goto (tgt := 16) hx hb dX6_readForeignFunctions_153 (by decide) ?_
      exact ih16 (z_63, (p_9 + 1)) ls H_65 locs ⟨lv_sub hl [0, 2] rfl, hP, hD, hS⟩ hf

theorem md_X6_readFunctions_1 : (.fieldLink RX6 17 "ResourceLedger$Reader" "p" "LResourceLedger$Program;" : Cond) ∈ wsX6_readFunctions := List.mem_of_getElem? (i := 1) rfl
theorem iwd_X6_readFunctions_X6 : ∀ w ∈ wsX60, w ∈ wsX6_readFunctions := fun _ h => List.mem_cons_of_mem _ (List.mem_append_left _ (List.mem_append_right _ h))
theorem md_X6_readFunctions_2 : (.fieldLink RX6 120 "ResourceLedger$Program" "ownFunctions" "I" : Cond) ∈ wsX6_readFunctions := List.mem_of_getElem? (i := 2) rfl
theorem iwd_X6_readFunctions_X5 : ∀ w ∈ wsX50, w ∈ wsX6_readFunctions := fun _ h => List.mem_cons_of_mem _ (List.mem_append_right _ h)
theorem md_X6_readFunctions_3 : (.fieldLink RX6 21 "ResourceLedger$Reader" "fault" "I" : Cond) ∈ wsX6_readFunctions := List.mem_of_getElem? (i := 3) rfl
theorem md_X6_readFunctions_4 : (.fieldLink RX6 97 "ResourceLedger$Program" "number" "I" : Cond) ∈ wsX6_readFunctions := List.mem_of_getElem? (i := 4) rfl
theorem md_X6_readFunctions_5 : (.fieldLink RX6 53 "ResourceLedger$Program" "typeCount" "I" : Cond) ∈ wsX6_readFunctions := List.mem_of_getElem? (i := 5) rfl
theorem md_X6_readFunctions_6 : (.fieldLink RX6 123 "ResourceLedger$Reader" "locals" "I" : Cond) ∈ wsX6_readFunctions := List.mem_of_getElem? (i := 6) rfl
theorem md_X6_readFunctions_7 : (.fieldLink RX6 32 "ResourceLedger$Reader" "at" "I" : Cond) ∈ wsX6_readFunctions := List.mem_of_getElem? (i := 7) rfl
theorem md_X6_readFunctions_8 : (.fieldLink RX6 126 "ResourceLedger$Reader" "instructions" "I" : Cond) ∈ wsX6_readFunctions := List.mem_of_getElem? (i := 8) rfl
theorem md_X6_readFunctions_9 : (.fieldLink RX6 35 "ResourceLedger$Reader" "told" "I" : Cond) ∈ wsX6_readFunctions := List.mem_of_getElem? (i := 9) rfl
theorem md_X6_readFunctions_10 : (.fieldLink RX6 129 "ResourceLedger$Program" "startCount" "I" : Cond) ∈ wsX6_readFunctions := List.mem_of_getElem? (i := 10) rfl
def fn_X6_readFunctions_B270 (F : Nat) (sh : Nat → Nat × Nat) (n : Nat) (p_9 : Int32) (ko18 : St → Int32 → Option (St × Unit)) (z_82 : St) : Option (St × Unit) := ko18 z_82 (p_9 + 1)
theorem fn_X6_readFunctions_B270_s {F : Nat} {sh : Nat → Nat × Nat} {n : Nat} {p_9 : Int32} {ko18 : St → Int32 → Option (St × Unit)} {z_82 : St} {y : St × Unit} (h : fn_X6_readFunctions_B270 F sh n p_9 ko18 z_82 = some y) : (ko18 z_82 (p_9 + 1)) = some y := h
def fn_X6_readFunctions_L244 (F : Nat) (sh : Nat → Nat × Nat) (n : Nat) (h0 : Nat) (p_9 : Int32) (ko18 : St → Int32 → Option (St × Unit)) : Nat → St → Int32 → Option (St × Unit)
  | 0, _, _ => none
  | f_81 + 1, z_80, p_79 => if ((z_80.1 h0 7) : Int32) ≤ p_79 then fn_X6_readFunctions_B270 F sh n p_9 (fun z9 q2 => ko18 z9 q2) z_80  else if ((z_80.1 h0 1) : Int32) = 0 then cal (fn_X6_readInstruction F sh n z_80 h0) (fun z_85 _ => fn_X6_readFunctions_L244 F sh n h0 p_9 ko18 f_81 z_85 (p_79 + 1)) else fn_X6_readFunctions_B270 F sh n p_9 (fun z9 q2 => ko18 z9 q2) z_80 
theorem fn_X6_readFunctions_L244_s {F : Nat} {sh : Nat → Nat × Nat} {n : Nat} {h0 : Nat} {p_9 : Int32} {ko18 : St → Int32 → Option (St × Unit)} {f_81 : Nat} {z_80 : St} {p_79 : Int32} {y : St × Unit} (h : fn_X6_readFunctions_L244 F sh n h0 p_9 ko18 (f_81 + 1) z_80 p_79 = some y) : (if ((z_80.1 h0 7) : Int32) ≤ p_79 then fn_X6_readFunctions_B270 F sh n p_9 (fun z9 q2 => ko18 z9 q2) z_80  else if ((z_80.1 h0 1) : Int32) = 0 then cal (fn_X6_readInstruction F sh n z_80 h0) (fun z_85 _ => fn_X6_readFunctions_L244 F sh n h0 p_9 ko18 f_81 z_85 (p_79 + 1)) else fn_X6_readFunctions_B270 F sh n p_9 (fun z9 q2 => ko18 z9 q2) z_80 ) = some y := h
def fn_X6_readFunctions_B211 (F : Nat) (sh : Nat → Nat × Nat) (n : Nat) (h0 : Nat) (p_9 : Int32) (ko18 : St → Int32 → Option (St × Unit)) (z_68 : St) : Option (St × Unit) := lnk (z_68.2.2 h0 2) (fun k_69 => lnk (z_68.2.2 h0 2) (fun k_70 => grd (okO sh n k_70 5) (grd (okO sh n k_69 5) (cal (fn_X5_setFunction F sh n z_68 k_69 p_9 5 (z_68.1 k_70 6)) (fun z_72 _ => lnk (z_72.2.2 h0 2) (fun k_75 => grd (okO sh n k_75 5) (cal (fn_X5_setFunction F sh n z_72 k_75 p_9 6 (z_72.1 h0 7)) (fun z_76 _ => fn_X6_readFunctions_L244 F sh n h0 p_9 (fun z9 q2 => ko18 z9 q2) F z_76 0))))))))
theorem fn_X6_readFunctions_B211_s {F : Nat} {sh : Nat → Nat × Nat} {n : Nat} {h0 : Nat} {p_9 : Int32} {ko18 : St → Int32 → Option (St × Unit)} {z_68 : St} {y : St × Unit} (h : fn_X6_readFunctions_B211 F sh n h0 p_9 ko18 z_68 = some y) : (lnk (z_68.2.2 h0 2) (fun k_69 => lnk (z_68.2.2 h0 2) (fun k_70 => grd (okO sh n k_70 5) (grd (okO sh n k_69 5) (cal (fn_X5_setFunction F sh n z_68 k_69 p_9 5 (z_68.1 k_70 6)) (fun z_72 _ => lnk (z_72.2.2 h0 2) (fun k_75 => grd (okO sh n k_75 5) (cal (fn_X5_setFunction F sh n z_72 k_75 p_9 6 (z_72.1 h0 7)) (fun z_76 _ => fn_X6_readFunctions_L244 F sh n h0 p_9 (fun z9 q2 => ko18 z9 q2) F z_76 0))))))))) = some y := h
def fn_X6_readFunctions_B204 (F : Nat) (sh : Nat → Nat × Nat) (n : Nat) (h0 : Nat) (v_60 : Int32) (p_9 : Int32) (ko18 : St → Int32 → Option (St × Unit)) (z_87 : St) : Option (St × Unit) := cal (fn_X6_fail F sh n z_87 h0 3 v_60) (fun z_88 _ => fn_X6_readFunctions_B211 F sh n h0 p_9 (fun z9 q2 => ko18 z9 q2) z_88 )
theorem fn_X6_readFunctions_B204_s {F : Nat} {sh : Nat → Nat × Nat} {n : Nat} {h0 : Nat} {v_60 : Int32} {p_9 : Int32} {ko18 : St → Int32 → Option (St × Unit)} {z_87 : St} {y : St × Unit} (h : fn_X6_readFunctions_B204 F sh n h0 v_60 p_9 ko18 z_87 = some y) : (cal (fn_X6_fail F sh n z_87 h0 3 v_60) (fun z_88 _ => fn_X6_readFunctions_B211 F sh n h0 p_9 (fun z9 q2 => ko18 z9 q2) z_88 )) = some y := h
def fn_X6_readFunctions_L18 (F : Nat) (sh : Nat → Nat × Nat) (n : Nat) (r_2 : Int32) (h0 : Nat) : Nat → St → Int32 → Option (St × Unit)
  | 0, _, _ => none
  | f_11 + 1, z_10, p_9 => if (r_2 : Int32) ≤ p_9 then some (z_10, ()) else if ((z_10.1 h0 1) : Int32) = 0 then lnk (z_10.2.2 h0 2) (fun k_14 => lnk (z_10.2.2 h0 2) (fun k_15 => grd (okO sh n k_15 5) (grd (okO sh n k_14 5) (cal (fn_X5_setFunction F sh n z_10 k_14 p_9 7 (z_10.1 k_15 2)) (fun z_17 _ => lnk (z_17.2.2 h0 2) (fun k_20 => grd (okO sh n k_20 5) (cal (fn_X5_setFunction F sh n z_17 k_20 p_9 8 p_9) (fun z_21 _ => lnk (z_21.2.2 h0 2) (fun k_24 => cal (fn_X6_readNumber F sh n z_21 h0 0 7) (fun z_25 r_26 => grd (okO sh n k_24 5) (cal (fn_X5_setFunction F sh n z_25 k_24 p_9 0 r_26) (fun z_28 _ => lnk (z_28.2.2 h0 2) (fun k_31 => lnk (z_28.2.2 h0 2) (fun k_32 => grd (okO sh n k_32 5) (grd (okO sh n k_31 5) (cal (fn_X5_setFunction F sh n z_28 k_31 p_9 1 (z_28.1 k_32 4)) (fun z_34 _ => cal (fn_X6_readList F sh n z_34 h0 8) (fun z_37 r_38 => lnk (z_37.2.2 h0 2) (fun k_40 => grd (okO sh n k_40 5) (cal (fn_X5_setFunction F sh n z_37 k_40 p_9 2 r_38) (fun z_41 _ => lnk (z_41.2.2 h0 2) (fun k_44 => cal (fn_X6_readList F sh n z_41 h0 8) (fun z_45 r_46 => grd (okO sh n k_44 5) (cal (fn_X5_setFunction F sh n z_45 k_44 p_9 3 r_46) (fun z_48 _ => cal (fn_X6_readList F sh n z_48 h0 32) (fun z_51 r_52 => lnk (z_51.2.2 h0 2) (fun k_54 => grd (okO sh n k_54 5) (cal (fn_X5_setFunction F sh n z_51 k_54 p_9 4 r_52) (fun z_55 _ => lt_ (si z_55 h0 6 (r_38 + r_52)) (fun z_59 => lt_ (z_59.1 h0 3) (fun v_60 => cal (fn_X6_readShort F sh n z_59 h0) (fun z_61 r_62 => lt_ (si z_61 h0 7 r_62) (fun z_65 => lt_ (si z_65 h0 5 ((z_65.1 h0 5) + (z_65.1 h0 7))) (fun z_67 => if ((z_67.1 h0 7) : Int32) < 1 then fn_X6_readFunctions_B204 F sh n h0 v_60 p_9 (fun z9 q2 => fn_X6_readFunctions_L18 F sh n r_2 h0 f_11 z9 q2) z_67  else if (1024 : Int32) < (z_67.1 h0 7) then fn_X6_readFunctions_B204 F sh n h0 v_60 p_9 (fun z9 q2 => fn_X6_readFunctions_L18 F sh n r_2 h0 f_11 z9 q2) z_67  else if ((z_67.1 h0 5) : Int32) ≤ 8192 then fn_X6_readFunctions_B211 F sh n h0 p_9 (fun z9 q2 => fn_X6_readFunctions_L18 F sh n r_2 h0 f_11 z9 q2) z_67  else fn_X6_readFunctions_B204 F sh n h0 v_60 p_9 (fun z9 q2 => fn_X6_readFunctions_L18 F sh n r_2 h0 f_11 z9 q2) z_67 )))))))))))))))))))))))))))))))))) else some (z_10, ())
theorem fn_X6_readFunctions_L18_s {F : Nat} {sh : Nat → Nat × Nat} {n : Nat} {r_2 : Int32} {h0 : Nat} {f_11 : Nat} {z_10 : St} {p_9 : Int32} {y : St × Unit} (h : fn_X6_readFunctions_L18 F sh n r_2 h0 (f_11 + 1) z_10 p_9 = some y) : (if (r_2 : Int32) ≤ p_9 then some (z_10, ()) else if ((z_10.1 h0 1) : Int32) = 0 then lnk (z_10.2.2 h0 2) (fun k_14 => lnk (z_10.2.2 h0 2) (fun k_15 => grd (okO sh n k_15 5) (grd (okO sh n k_14 5) (cal (fn_X5_setFunction F sh n z_10 k_14 p_9 7 (z_10.1 k_15 2)) (fun z_17 _ => lnk (z_17.2.2 h0 2) (fun k_20 => grd (okO sh n k_20 5) (cal (fn_X5_setFunction F sh n z_17 k_20 p_9 8 p_9) (fun z_21 _ => lnk (z_21.2.2 h0 2) (fun k_24 => cal (fn_X6_readNumber F sh n z_21 h0 0 7) (fun z_25 r_26 => grd (okO sh n k_24 5) (cal (fn_X5_setFunction F sh n z_25 k_24 p_9 0 r_26) (fun z_28 _ => lnk (z_28.2.2 h0 2) (fun k_31 => lnk (z_28.2.2 h0 2) (fun k_32 => grd (okO sh n k_32 5) (grd (okO sh n k_31 5) (cal (fn_X5_setFunction F sh n z_28 k_31 p_9 1 (z_28.1 k_32 4)) (fun z_34 _ => cal (fn_X6_readList F sh n z_34 h0 8) (fun z_37 r_38 => lnk (z_37.2.2 h0 2) (fun k_40 => grd (okO sh n k_40 5) (cal (fn_X5_setFunction F sh n z_37 k_40 p_9 2 r_38) (fun z_41 _ => lnk (z_41.2.2 h0 2) (fun k_44 => cal (fn_X6_readList F sh n z_41 h0 8) (fun z_45 r_46 => grd (okO sh n k_44 5) (cal (fn_X5_setFunction F sh n z_45 k_44 p_9 3 r_46) (fun z_48 _ => cal (fn_X6_readList F sh n z_48 h0 32) (fun z_51 r_52 => lnk (z_51.2.2 h0 2) (fun k_54 => grd (okO sh n k_54 5) (cal (fn_X5_setFunction F sh n z_51 k_54 p_9 4 r_52) (fun z_55 _ => lt_ (si z_55 h0 6 (r_38 + r_52)) (fun z_59 => lt_ (z_59.1 h0 3) (fun v_60 => cal (fn_X6_readShort F sh n z_59 h0) (fun z_61 r_62 => lt_ (si z_61 h0 7 r_62) (fun z_65 => lt_ (si z_65 h0 5 ((z_65.1 h0 5) + (z_65.1 h0 7))) (fun z_67 => if ((z_67.1 h0 7) : Int32) < 1 then fn_X6_readFunctions_B204 F sh n h0 v_60 p_9 (fun z9 q2 => fn_X6_readFunctions_L18 F sh n r_2 h0 f_11 z9 q2) z_67  else if (1024 : Int32) < (z_67.1 h0 7) then fn_X6_readFunctions_B204 F sh n h0 v_60 p_9 (fun z9 q2 => fn_X6_readFunctions_L18 F sh n r_2 h0 f_11 z9 q2) z_67  else if ((z_67.1 h0 5) : Int32) ≤ 8192 then fn_X6_readFunctions_B211 F sh n h0 p_9 (fun z9 q2 => fn_X6_readFunctions_L18 F sh n r_2 h0 f_11 z9 q2) z_67  else fn_X6_readFunctions_B204 F sh n h0 v_60 p_9 (fun z9 q2 => fn_X6_readFunctions_L18 F sh n r_2 h0 f_11 z9 q2) z_67 )))))))))))))))))))))))))))))))))) else some (z_10, ())) = some y := h
def fn_X6_readFunctions (F : Nat) (sh : Nat → Nat × Nat) (n : Nat) (z : St) (h0 : Nat) : Option (St × Unit) := grd (okO sh n h0 6) (cal (fn_X6_readNumber F sh n z h0 0 64) (fun z_1 r_2 => lnk (z_1.2.2 h0 2) (fun k_5 => grd (okO sh n k_5 5) (lt_ (si z_1 k_5 11 r_2) (fun z_8 => fn_X6_readFunctions_L18 F sh n r_2 h0 F z_8 0)))))
set_option maxHeartbeats 4000000 in
set_option maxRecDepth 100000 in
theorem de_X6_readFunctions (l : Launch) (dC : Nat → ClassId) (dI : Nat → Nat → Nat) (cy : Nat → ClassId) (a : Nat → Nat) (sh : Nat → Nat × Nat) (n sz : Nat) (F : Nat) (z : St) (h0 : Nat) {z8 : St} {r8 : Unit} (hf : fn_X6_readFunctions F sh n z h0 = some (z8, r8)) : Met l yX6_readFunctions wsX6_readFunctions ({ frames := 4, cells := 0, slots := 0, locals := 93 }) (va_Pc [.ref (a h0)] (fun U => U.heap.size = sz ∧ va_P (dC, dI) vwCl (Wd cy a sh n z) U.heap ∧ va_K (dC, dI) vwCl (TYS cy) U ∧ va_D (fun _ => True) (Wd cy a sh n z) ∧ NK U)) (va_Qv (fun u : Unit => True) (fun u t => va_P (dC, dI) vwCl (Wd cy a sh n z8) t.heap ∧ va_K (dC, dI) vwCl (TYS cy) t ∧ va_D (va_A (Wd cy a sh n z) sz) (Wd cy a sh n z8)) (va_A (Wd cy a sh n z) sz)) 0 0 (va_A (Wd cy a sh n z) sz) := by
  refine Met.ofW (cc := cX6_readFunctions) (maxL := 7) (ret := none) (by decide) rfl ?_
  intro p e s m args below meth c s₁ B hml hv
  obtain ⟨rfl, hsz, hP, hK, hD0, hN⟩ := hv
  have hx := B.exec
  have hb := B.bytes
  have hr := B.returns
  have hts := atoms_spec (ws := wsX6_readFunctions) B.pre
  have hown : s.vm.findClass RX6 = some m.cls := findClass_of_methodNamed B.named
  have hlocks := B.notSynchronized
  subst hsz
  have hD := hD0.self (sz := s.heap.size)
  clear hD0
  generalize hAe : va_A (Wd cy a sh n z) s.heap.size = A at hD ⊢
  have hA : ∀ q : Nat, s.heap.size ≤ q → A q := fun q h => by rw [← hAe]; exact Or.inr h
  clear hAe
  have hS : va_S A s.heap s.heap [] := va_S.rf
  have hl := lv_entry ([.ref (a h0)]) (n := 7) (Nat.le_of_ble_eq_true rfl)
  rw [lg_entry_eq]
  generalize (lg_sl ([.ref (a h0)]) ++ List.replicate (7 - (lg_sl ([.ref (a h0)])).length) Slot.unset).toArray = ls at hl ⊢
  replace hl : lv_has ls 7 [(0, .ref (a h0))] := hl
  unfold fn_X6_readFunctions at hf
  refine de_start hS hP (fun H locs hS hP => ?_)
  refine lv_aload_n hx hb dX6_readFunctions_0 rfl (lv_at hl 0 rfl) ?_
  refine lv_iconst (v := 0) hx hb dX6_readFunctions_1 (by decide) ?_
  refine lv_bipush (v := 64) hx hb dX6_readFunctions_2 (by decide) ?_
  obtain ⟨g_3, hf⟩ := grd_some hf
  obtain ⟨kg_3, sg_3⟩ := okO_at g_3
  obtain ⟨z_1, r_2, hfc, hf⟩ := cal_some hf
  have hFc := de_free hD hS hA
  refine va_calli (va_runV (As := [.int 0, .int 64]) (rest := []) ⟨hx, hb, hml, hown, hts⟩ (de_X6_readNumber l dC dI cy a sh n H.size F z h0 0 64 hfc) (cwV 2 hts gX6_readFunctions_X6_readNumber rfl rfl rfl (by decide +kernel) ⟨Nat.le_of_ble_eq_true rfl, Nat.le_of_ble_eq_true rfl⟩) ⟨fun a U g mk q => by obtain ⟨q0, q1, qP, qK, qD, qN⟩ := q; exact ⟨q0, q1, qP, va_K.moved (u := U) (U := U.calling g mk a) (Vm.Alike.refl U.vm) qK, qD, qN.same rfl⟩, va_recv hK hP (ci := 6) (q0 := h0) rfl (Wd_ob kg_3 sg_3 (by decide)), fun U hU hW => ⟨rfl, by rw [hU], by rw [hU]; exact hP, va_K.moved hW.alike hK, hD.weaken (fun _ _ _ _ => trivial), hN.warm hW⟩⟩ rfl rfl hl.1 rfl (lv_room (Nat.le_of_ble_eq_true rfl)) dX6_readFunctions_4 ⟨Nat.le_of_ble_eq_true rfl, Nat.le_of_ble_eq_true rfl⟩) hS (fun q _ h => hFc q h) hFc (fun rr u t H_4 locs ht hvm hw hB hz1 hk1 hS2 => ?_)
  rw [hw]
  clear hw
  obtain ⟨hP1, -, hD1⟩ := hB
  rw [ht] at hP1
  replace hD := hD1.weaken (fun _ _ _ h => hFc _ h)
  replace hP := hP1
  replace hS := hS2
  clear hP1 hD1 hS2 hFc hfc hz1 hk1 hvm ht
  refine lv_istore_n (lv' := [(1, .int r_2), (0, .ref (a h0))]) hx hb dX6_readFunctions_7 rfl hl (by decide) rfl (fun ls hl2 => ?_)
  replace hl := hl2
  clear hl2
  refine lv_aload_n hx hb dX6_readFunctions_8 rfl (lv_at hl 1 rfl) ?_
  obtain ⟨k_5, ek_5, hf⟩ := lnk_some hf
  refine va_get (D := (dC, dI)) (ci := 6) (v := .ref (a k_5)) (C := RX6) (T := TX6) (N := 9) hx hb hts iwd_X6_readFunctions_X6 hown hK hP h0 (Wd_ob kg_3 sg_3 (by decide)) rfl 2 (by decide) (hts _ md_X6_readFunctions_1) (fun _ h9 => h9) (fl_q rfl ek_5) dX6_readFunctions_9 ?_
  refine lv_iload_n hx hb dX6_readFunctions_12 rfl (lv_at hl 0 rfl) ?_
  obtain ⟨g_6, hf⟩ := grd_some hf
  obtain ⟨kg_6, sg_6⟩ := okO_at g_6
  refine va_put (D := (dC, dI)) (ci := 5) (v := .int r_2) (ty := .int) (C := RX5) (T := TX5) (N := 15) hx hb hts iwd_X6_readFunctions_X5 tyX5 tyX5_ok nmX5 hown hK hP hD hS k_5 (Wd_ob kg_6 sg_6 (by decide)) rfl 11 (by decide) (hts _ md_X6_readFunctions_2) (fun _ h9 => h9) rfl (by decide +kernel) rfl rfl (by rw [fl_len]; decide) dX6_readFunctions_13 (fun H_7 locs hP2 hD2 hS2 => ?_)
  rw [Wd_si sg_6 (by decide) rfl] at hP2 hD2
  obtain ⟨z_8, ez_8⟩ : ∃ w, w = si z_1 k_5 11 r_2 := ⟨_, rfl⟩
  rw [← ez_8] at hP2 hD2
  replace hf := lt_at ez_8 hf
  clear ez_8
  replace hP := hP2
  replace hD := hD2
  replace hS := hS2
  clear hP2 hD2 hS2
  refine lv_iconst (v := 0) hx hb dX6_readFunctions_16 (by decide) ?_
  refine lv_istore_n (lv' := [(2, .int 0), (1, .int r_2), (0, .ref (a h0))]) hx hb dX6_readFunctions_17 rfl hl (by decide) rfl (fun ls hl2 => ?_)
  replace hl := hl2
  clear hl2
  have hl0 : lv_has ls 7 [(2, .int 0), (1, .int r_2), (0, .ref (a h0))] := lv_sub hl [0, 1, 2] rfl
  refine de_loop (h := 18) (fun (x : St × Int32) ls H locs => lv_has ls 7 [(2, .int x.2), (1, .int r_2), (0, .ref (a h0))] ∧ va_P (dC, dI) vwCl (Wd cy a sh n x.1) H ∧ va_D A (Wd cy a sh n x.1) ∧ va_S A s.heap H locs) (fun f x => fn_X6_readFunctions_L18 F sh n r_2 h0 f x.1 x.2) (z8, r8) ?_ (fun _ => rfl) F (z_8, 0) ls H_7 locs ⟨hl0, hP, hD, hS⟩ hf
  intro f_11 x ls H locs ih18 hI hf
  obtain ⟨z_10, p_9⟩ := x
  obtain ⟨hl2, hP2, hD2, hS2⟩ := hI
  replace hl : lv_has ls 7 [(2, .int p_9), (1, .int r_2), (0, .ref (a h0))] := hl2
  replace hP := hP2
  replace hD := hD2
  replace hS := hS2
  clear hl2 hP2 hD2 hS2 hl0
  replace hf := fn_X6_readFunctions_L18_s hf
  refine lv_iload_n hx hb dX6_readFunctions_18 rfl (lv_at hl 0 rfl) ?_
  refine lv_iload_n hx hb dX6_readFunctions_19 rfl (lv_at hl 1 rfl) ?_
  refine lv_icmp_ge (tgt := 276) hx hb dX6_readFunctions_20 (by decide) (fun c_12 => ?_) (fun c_12 => ?_)
  · skip
    rw [if_pos c_12] at hf
    obtain ⟨h8, h9⟩ := ret_some hf
    rw [h8]
    exact W.vret hx hb hr (fun t ht hW => ⟨⟨(), rfl, trivial, by rw [ht]; exact hP, va_K.moved hW.alike hK, hD⟩, hS.F ht⟩) hS.2.2 dX6_readFunctions_276
  · skip
    rw [if_neg c_12] at hf
    refine lv_aload_n hx hb dX6_readFunctions_23 rfl (lv_at hl 2 rfl) ?_
    refine va_get (D := (dC, dI)) (ci := 6) (v := .int (z_10.1 h0 1)) (C := RX6) (T := TX6) (N := 9) hx hb hts iwd_X6_readFunctions_X6 hown hK hP h0 (Wd_ob kg_3 sg_3 (by decide)) rfl 1 (by decide) (hts _ md_X6_readFunctions_3) (fun _ h9 => h9) (fl_at (t := 0) rfl) dX6_readFunctions_24 ?_
    refine lv_if_ne (tgt := 276) hx hb dX6_readFunctions_27 (by decide) (fun c_13 => ?_) (fun c_13 => ?_)
    · skip
      rw [if_neg c_13] at hf
      obtain ⟨h8, h9⟩ := ret_some hf
      rw [h8]
      exact W.vret hx hb hr (fun t ht hW => ⟨⟨(), rfl, trivial, by rw [ht]; exact hP, va_K.moved hW.alike hK, hD⟩, hS.F ht⟩) hS.2.2 dX6_readFunctions_276
    · skip
      rw [if_pos c_13] at hf
      refine lv_aload_n hx hb dX6_readFunctions_30 rfl (lv_at hl 2 rfl) ?_
      obtain ⟨k_14, ek_14, hf⟩ := lnk_some hf
      refine va_get (D := (dC, dI)) (ci := 6) (v := .ref (a k_14)) (C := RX6) (T := TX6) (N := 9) hx hb hts iwd_X6_readFunctions_X6 hown hK hP h0 (Wd_ob kg_3 sg_3 (by decide)) rfl 2 (by decide) (hts _ md_X6_readFunctions_1) (fun _ h9 => h9) (fl_q rfl ek_14) dX6_readFunctions_31 ?_
      refine lv_iload_n hx hb dX6_readFunctions_34 rfl (lv_at hl 0 rfl) ?_
      refine lv_bipush (v := 7) hx hb dX6_readFunctions_35 (by decide) ?_
      refine lv_aload_n hx hb dX6_readFunctions_37 rfl (lv_at hl 2 rfl) ?_
      obtain ⟨k_15, ek_15, hf⟩ := lnk_some hf
      refine va_get (D := (dC, dI)) (ci := 6) (v := .ref (a k_15)) (C := RX6) (T := TX6) (N := 9) hx hb hts iwd_X6_readFunctions_X6 hown hK hP h0 (Wd_ob kg_3 sg_3 (by decide)) rfl 2 (by decide) (hts _ md_X6_readFunctions_1) (fun _ h9 => h9) (fl_q rfl ek_15) dX6_readFunctions_38 ?_
      obtain ⟨g_16, hf⟩ := grd_some hf
      obtain ⟨kg_16, sg_16⟩ := okO_at g_16
      refine va_get (D := (dC, dI)) (ci := 5) (v := .int (z_10.1 k_15 2)) (C := RX5) (T := TX5) (N := 15) hx hb hts iwd_X6_readFunctions_X5 hown hK hP k_15 (Wd_ob kg_16 sg_16 (by decide)) rfl 2 (by decide) (hts _ md_X6_readFunctions_4) (fun _ h9 => h9) (fl_at (t := 0) rfl) dX6_readFunctions_41 ?_
      obtain ⟨g_18, hf⟩ := grd_some hf
      obtain ⟨kg_18, sg_18⟩ := okO_at g_18
      obtain ⟨z_17, _u, hfc, hf⟩ := cal_some hf
      have hFc := de_free hD hS hA
      refine va_callv (va_runV (As := [.int p_9, .int 7, .int (z_10.1 k_15 2)]) (rest := []) ⟨hx, hb, hml, hown, hts⟩ (de_X5_setFunction l dC dI cy a sh n H.size F z_10 k_14 p_9 7 (z_10.1 k_15 2) hfc) (cwV 3 hts gX6_readFunctions_X5_setFunction rfl rfl rfl (by decide +kernel) ⟨Nat.le_of_ble_eq_true rfl, Nat.le_of_ble_eq_true rfl⟩) ⟨fun a U g mk q => by obtain ⟨q0, q1, qP, qK, qD, qN⟩ := q; exact ⟨q0, q1, qP, va_K.moved (u := U) (U := U.calling g mk a) (Vm.Alike.refl U.vm) qK, qD, qN.same rfl⟩, va_recv hK hP (ci := 5) (q0 := k_14) rfl (Wd_ob kg_18 sg_18 (by decide)), fun U hU hW => ⟨rfl, by rw [hU], by rw [hU]; exact hP, va_K.moved hW.alike hK, hD.weaken (fun _ _ _ _ => trivial), hN.warm hW⟩⟩ rfl rfl hl.1 rfl (lv_room (Nat.le_of_ble_eq_true rfl)) dX6_readFunctions_44 ⟨Nat.le_of_ble_eq_true rfl, Nat.le_of_ble_eq_true rfl⟩) hS (fun q _ h => hFc q h) hFc (fun u t H_19 locs ht hvm hw hB hz1 hk1 hS2 => ?_)
      obtain ⟨hP1, -, hD1⟩ := hB
      rw [ht] at hP1
      replace hD := hD1.weaken (fun _ _ _ h => hFc _ h)
      replace hP := hP1
      replace hS := hS2
      clear hP1 hD1 hS2 hFc hfc hz1 hk1 hvm ht
      refine lv_aload_n hx hb dX6_readFunctions_47 rfl (lv_at hl 2 rfl) ?_
      obtain ⟨k_20, ek_20, hf⟩ := lnk_some hf
      refine va_get (D := (dC, dI)) (ci := 6) (v := .ref (a k_20)) (C := RX6) (T := TX6) (N := 9) hx hb hts iwd_X6_readFunctions_X6 hown hK hP h0 (Wd_ob kg_3 sg_3 (by decide)) rfl 2 (by decide) (hts _ md_X6_readFunctions_1) (fun _ h9 => h9) (fl_q rfl ek_20) dX6_readFunctions_48 ?_
      refine lv_iload_n hx hb dX6_readFunctions_51 rfl (lv_at hl 0 rfl) ?_
      refine lv_bipush (v := 8) hx hb dX6_readFunctions_52 (by decide) ?_
      refine lv_iload_n hx hb dX6_readFunctions_54 rfl (lv_at hl 0 rfl) ?_
      obtain ⟨g_22, hf⟩ := grd_some hf
      obtain ⟨kg_22, sg_22⟩ := okO_at g_22
      obtain ⟨z_21, _u, hfc, hf⟩ := cal_some hf
      have hFc := de_free hD hS hA
      refine va_callv (va_runV (As := [.int p_9, .int 8, .int p_9]) (rest := []) ⟨hx, hb, hml, hown, hts⟩ (de_X5_setFunction l dC dI cy a sh n H_19.size F z_17 k_20 p_9 8 p_9 hfc) (cwV 3 hts gX6_readFunctions_X5_setFunction rfl rfl rfl (by decide +kernel) ⟨Nat.le_of_ble_eq_true rfl, Nat.le_of_ble_eq_true rfl⟩) ⟨fun a U g mk q => by obtain ⟨q0, q1, qP, qK, qD, qN⟩ := q; exact ⟨q0, q1, qP, va_K.moved (u := U) (U := U.calling g mk a) (Vm.Alike.refl U.vm) qK, qD, qN.same rfl⟩, va_recv hK hP (ci := 5) (q0 := k_20) rfl (Wd_ob kg_22 sg_22 (by decide)), fun U hU hW => ⟨rfl, by rw [hU], by rw [hU]; exact hP, va_K.moved hW.alike hK, hD.weaken (fun _ _ _ _ => trivial), hN.warm hW⟩⟩ rfl rfl hl.1 rfl (lv_room (Nat.le_of_ble_eq_true rfl)) dX6_readFunctions_55 ⟨Nat.le_of_ble_eq_true rfl, Nat.le_of_ble_eq_true rfl⟩) hS (fun q _ h => hFc q h) hFc (fun u t H_23 locs ht hvm hw hB hz1 hk1 hS2 => ?_)
      obtain ⟨hP1, -, hD1⟩ := hB
      rw [ht] at hP1
      replace hD := hD1.weaken (fun _ _ _ h => hFc _ h)
      replace hP := hP1
      replace hS := hS2
      clear hP1 hD1 hS2 hFc hfc hz1 hk1 hvm ht
      refine lv_aload_n hx hb dX6_readFunctions_58 rfl (lv_at hl 2 rfl) ?_
      obtain ⟨k_24, ek_24, hf⟩ := lnk_some hf
      refine va_get (D := (dC, dI)) (ci := 6) (v := .ref (a k_24)) (C := RX6) (T := TX6) (N := 9) hx hb hts iwd_X6_readFunctions_X6 hown hK hP h0 (Wd_ob kg_3 sg_3 (by decide)) rfl 2 (by decide) (hts _ md_X6_readFunctions_1) (fun _ h9 => h9) (fl_q rfl ek_24) dX6_readFunctions_59 ?_
      refine lv_iload_n hx hb dX6_readFunctions_62 rfl (lv_at hl 0 rfl) ?_
      refine lv_iconst (v := 0) hx hb dX6_readFunctions_63 (by decide) ?_
      refine lv_aload_n hx hb dX6_readFunctions_64 rfl (lv_at hl 2 rfl) ?_
      refine lv_iconst (v := 0) hx hb dX6_readFunctions_65 (by decide) ?_
      refine lv_bipush (v := 7) hx hb dX6_readFunctions_66 (by decide) ?_
      obtain ⟨z_25, r_26, hfc, hf⟩ := cal_some hf
      have hFc := de_free hD hS hA
      refine va_calli (va_runV (As := [.int 0, .int 7]) (rest := [.int 0, .int p_9, .ref (a k_24)]) ⟨hx, hb, hml, hown, hts⟩ (de_X6_readNumber l dC dI cy a sh n H_23.size F z_21 h0 0 7 hfc) (cwV 2 hts gX6_readFunctions_X6_readNumber rfl rfl rfl (by decide +kernel) ⟨Nat.le_of_ble_eq_true rfl, Nat.le_of_ble_eq_true rfl⟩) ⟨fun a U g mk q => by obtain ⟨q0, q1, qP, qK, qD, qN⟩ := q; exact ⟨q0, q1, qP, va_K.moved (u := U) (U := U.calling g mk a) (Vm.Alike.refl U.vm) qK, qD, qN.same rfl⟩, va_recv hK hP (ci := 6) (q0 := h0) rfl (Wd_ob kg_3 sg_3 (by decide)), fun U hU hW => ⟨rfl, by rw [hU], by rw [hU]; exact hP, va_K.moved hW.alike hK, hD.weaken (fun _ _ _ _ => trivial), hN.warm hW⟩⟩ rfl rfl hl.1 rfl (lv_room (Nat.le_of_ble_eq_true rfl)) dX6_readFunctions_68 ⟨Nat.le_of_ble_eq_true rfl, Nat.le_of_ble_eq_true rfl⟩) hS (fun q _ h => hFc q h) hFc (fun rr u t H_27 locs ht hvm hw hB hz1 hk1 hS2 => ?_)
      rw [hw]
      clear hw
      obtain ⟨hP1, -, hD1⟩ := hB
      rw [ht] at hP1
      replace hD := hD1.weaken (fun _ _ _ h => hFc _ h)
      replace hP := hP1
      replace hS := hS2
      clear hP1 hD1 hS2 hFc hfc hz1 hk1 hvm ht
      obtain ⟨g_29, hf⟩ := grd_some hf
      obtain ⟨kg_29, sg_29⟩ := okO_at g_29
      obtain ⟨z_28, _u, hfc, hf⟩ := cal_some hf
      have hFc := de_free hD hS hA
      refine va_callv (va_runV (As := [.int p_9, .int 0, .int r_26]) (rest := []) ⟨hx, hb, hml, hown, hts⟩ (de_X5_setFunction l dC dI cy a sh n H_27.size F z_25 k_24 p_9 0 r_26 hfc) (cwV 3 hts gX6_readFunctions_X5_setFunction rfl rfl rfl (by decide +kernel) ⟨Nat.le_of_ble_eq_true rfl, Nat.le_of_ble_eq_true rfl⟩) ⟨fun a U g mk q => by obtain ⟨q0, q1, qP, qK, qD, qN⟩ := q; exact ⟨q0, q1, qP, va_K.moved (u := U) (U := U.calling g mk a) (Vm.Alike.refl U.vm) qK, qD, qN.same rfl⟩, va_recv hK hP (ci := 5) (q0 := k_24) rfl (Wd_ob kg_29 sg_29 (by decide)), fun U hU hW => ⟨rfl, by rw [hU], by rw [hU]; exact hP, va_K.moved hW.alike hK, hD.weaken (fun _ _ _ _ => trivial), hN.warm hW⟩⟩ rfl rfl hl.1 rfl (lv_room (Nat.le_of_ble_eq_true rfl)) dX6_readFunctions_71 ⟨Nat.le_of_ble_eq_true rfl, Nat.le_of_ble_eq_true rfl⟩) hS (fun q _ h => hFc q h) hFc (fun u t H_30 locs ht hvm hw hB hz1 hk1 hS2 => ?_)
      obtain ⟨hP1, -, hD1⟩ := hB
      rw [ht] at hP1
      replace hD := hD1.weaken (fun _ _ _ h => hFc _ h)
      replace hP := hP1
      replace hS := hS2
      clear hP1 hD1 hS2 hFc hfc hz1 hk1 hvm ht
      refine lv_aload_n hx hb dX6_readFunctions_74 rfl (lv_at hl 2 rfl) ?_
      obtain ⟨k_31, ek_31, hf⟩ := lnk_some hf
      refine va_get (D := (dC, dI)) (ci := 6) (v := .ref (a k_31)) (C := RX6) (T := TX6) (N := 9) hx hb hts iwd_X6_readFunctions_X6 hown hK hP h0 (Wd_ob kg_3 sg_3 (by decide)) rfl 2 (by decide) (hts _ md_X6_readFunctions_1) (fun _ h9 => h9) (fl_q rfl ek_31) dX6_readFunctions_75 ?_
      refine lv_iload_n hx hb dX6_readFunctions_78 rfl (lv_at hl 0 rfl) ?_
      refine lv_iconst (v := 1) hx hb dX6_readFunctions_79 (by decide) ?_
      refine lv_aload_n hx hb dX6_readFunctions_80 rfl (lv_at hl 2 rfl) ?_
      obtain ⟨k_32, ek_32, hf⟩ := lnk_some hf
      refine va_get (D := (dC, dI)) (ci := 6) (v := .ref (a k_32)) (C := RX6) (T := TX6) (N := 9) hx hb hts iwd_X6_readFunctions_X6 hown hK hP h0 (Wd_ob kg_3 sg_3 (by decide)) rfl 2 (by decide) (hts _ md_X6_readFunctions_1) (fun _ h9 => h9) (fl_q rfl ek_32) dX6_readFunctions_81 ?_
      obtain ⟨g_33, hf⟩ := grd_some hf
      obtain ⟨kg_33, sg_33⟩ := okO_at g_33
      refine va_get (D := (dC, dI)) (ci := 5) (v := .int (z_28.1 k_32 4)) (C := RX5) (T := TX5) (N := 15) hx hb hts iwd_X6_readFunctions_X5 hown hK hP k_32 (Wd_ob kg_33 sg_33 (by decide)) rfl 4 (by decide) (hts _ md_X6_readFunctions_5) (fun _ h9 => h9) (fl_at (t := 0) rfl) dX6_readFunctions_84 ?_
      obtain ⟨g_35, hf⟩ := grd_some hf
      obtain ⟨kg_35, sg_35⟩ := okO_at g_35
      obtain ⟨z_34, _u, hfc, hf⟩ := cal_some hf
      have hFc := de_free hD hS hA
      refine va_callv (va_runV (As := [.int p_9, .int 1, .int (z_28.1 k_32 4)]) (rest := []) ⟨hx, hb, hml, hown, hts⟩ (de_X5_setFunction l dC dI cy a sh n H_30.size F z_28 k_31 p_9 1 (z_28.1 k_32 4) hfc) (cwV 3 hts gX6_readFunctions_X5_setFunction rfl rfl rfl (by decide +kernel) ⟨Nat.le_of_ble_eq_true rfl, Nat.le_of_ble_eq_true rfl⟩) ⟨fun a U g mk q => by obtain ⟨q0, q1, qP, qK, qD, qN⟩ := q; exact ⟨q0, q1, qP, va_K.moved (u := U) (U := U.calling g mk a) (Vm.Alike.refl U.vm) qK, qD, qN.same rfl⟩, va_recv hK hP (ci := 5) (q0 := k_31) rfl (Wd_ob kg_35 sg_35 (by decide)), fun U hU hW => ⟨rfl, by rw [hU], by rw [hU]; exact hP, va_K.moved hW.alike hK, hD.weaken (fun _ _ _ _ => trivial), hN.warm hW⟩⟩ rfl rfl hl.1 rfl (lv_room (Nat.le_of_ble_eq_true rfl)) dX6_readFunctions_87 ⟨Nat.le_of_ble_eq_true rfl, Nat.le_of_ble_eq_true rfl⟩) hS (fun q _ h => hFc q h) hFc (fun u t H_36 locs ht hvm hw hB hz1 hk1 hS2 => ?_)
      obtain ⟨hP1, -, hD1⟩ := hB
      rw [ht] at hP1
      replace hD := hD1.weaken (fun _ _ _ h => hFc _ h)
      replace hP := hP1
      replace hS := hS2
      clear hP1 hD1 hS2 hFc hfc hz1 hk1 hvm ht
      refine lv_aload_n hx hb dX6_readFunctions_90 rfl (lv_at hl 2 rfl) ?_
      refine lv_bipush (v := 8) hx hb dX6_readFunctions_91 (by decide) ?_
      obtain ⟨z_37, r_38, hfc, hf⟩ := cal_some hf
      have hFc := de_free hD hS hA
      refine va_calli (va_runV (As := [.int 8]) (rest := []) ⟨hx, hb, hml, hown, hts⟩ (de_X6_readList l dC dI cy a sh n H_36.size F z_34 h0 8 hfc) (cwV 1 hts gX6_readFunctions_X6_readList rfl rfl rfl (by decide +kernel) ⟨Nat.le_of_ble_eq_true rfl, Nat.le_of_ble_eq_true rfl⟩) ⟨fun a U g mk q => by obtain ⟨q0, q1, qP, qK, qD, qN⟩ := q; exact ⟨q0, q1, qP, va_K.moved (u := U) (U := U.calling g mk a) (Vm.Alike.refl U.vm) qK, qD, qN.same rfl⟩, va_recv hK hP (ci := 6) (q0 := h0) rfl (Wd_ob kg_3 sg_3 (by decide)), fun U hU hW => ⟨rfl, by rw [hU], by rw [hU]; exact hP, va_K.moved hW.alike hK, hD.weaken (fun _ _ _ _ => trivial), hN.warm hW⟩⟩ rfl rfl hl.1 rfl (lv_room (Nat.le_of_ble_eq_true rfl)) dX6_readFunctions_93 ⟨Nat.le_of_ble_eq_true rfl, Nat.le_of_ble_eq_true rfl⟩) hS (fun q _ h => hFc q h) hFc (fun rr u t H_39 locs ht hvm hw hB hz1 hk1 hS2 => ?_)
      rw [hw]
      clear hw
      obtain ⟨hP1, -, hD1⟩ := hB
      rw [ht] at hP1
      replace hD := hD1.weaken (fun _ _ _ h => hFc _ h)
      replace hP := hP1
      replace hS := hS2
      clear hP1 hD1 hS2 hFc hfc hz1 hk1 hvm ht
      refine lv_istore_n (lv' := [(3, .int r_38), (2, .int p_9), (1, .int r_2), (0, .ref (a h0))]) hx hb dX6_readFunctions_96 rfl hl (by decide) rfl (fun ls hl2 => ?_)
      replace hl := hl2
      clear hl2
      refine lv_aload_n hx hb dX6_readFunctions_97 rfl (lv_at hl 3 rfl) ?_
      obtain ⟨k_40, ek_40, hf⟩ := lnk_some hf
      refine va_get (D := (dC, dI)) (ci := 6) (v := .ref (a k_40)) (C := RX6) (T := TX6) (N := 9) hx hb hts iwd_X6_readFunctions_X6 hown hK hP h0 (Wd_ob kg_3 sg_3 (by decide)) rfl 2 (by decide) (hts _ md_X6_readFunctions_1) (fun _ h9 => h9) (fl_q rfl ek_40) dX6_readFunctions_98 ?_
      refine lv_iload_n hx hb dX6_readFunctions_101 rfl (lv_at hl 1 rfl) ?_
      refine lv_iconst (v := 2) hx hb dX6_readFunctions_102 (by decide) ?_
      refine lv_iload_n hx hb dX6_readFunctions_103 rfl (lv_at hl 0 rfl) ?_
      obtain ⟨g_42, hf⟩ := grd_some hf
      obtain ⟨kg_42, sg_42⟩ := okO_at g_42
      obtain ⟨z_41, _u, hfc, hf⟩ := cal_some hf
      have hFc := de_free hD hS hA
      refine va_callv (va_runV (As := [.int p_9, .int 2, .int r_38]) (rest := []) ⟨hx, hb, hml, hown, hts⟩ (de_X5_setFunction l dC dI cy a sh n H_39.size F z_37 k_40 p_9 2 r_38 hfc) (cwV 3 hts gX6_readFunctions_X5_setFunction rfl rfl rfl (by decide +kernel) ⟨Nat.le_of_ble_eq_true rfl, Nat.le_of_ble_eq_true rfl⟩) ⟨fun a U g mk q => by obtain ⟨q0, q1, qP, qK, qD, qN⟩ := q; exact ⟨q0, q1, qP, va_K.moved (u := U) (U := U.calling g mk a) (Vm.Alike.refl U.vm) qK, qD, qN.same rfl⟩, va_recv hK hP (ci := 5) (q0 := k_40) rfl (Wd_ob kg_42 sg_42 (by decide)), fun U hU hW => ⟨rfl, by rw [hU], by rw [hU]; exact hP, va_K.moved hW.alike hK, hD.weaken (fun _ _ _ _ => trivial), hN.warm hW⟩⟩ rfl rfl hl.1 rfl (lv_room (Nat.le_of_ble_eq_true rfl)) dX6_readFunctions_104 ⟨Nat.le_of_ble_eq_true rfl, Nat.le_of_ble_eq_true rfl⟩) hS (fun q _ h => hFc q h) hFc (fun u t H_43 locs ht hvm hw hB hz1 hk1 hS2 => ?_)
      obtain ⟨hP1, -, hD1⟩ := hB
      rw [ht] at hP1
      replace hD := hD1.weaken (fun _ _ _ h => hFc _ h)
      replace hP := hP1
      replace hS := hS2
      clear hP1 hD1 hS2 hFc hfc hz1 hk1 hvm ht
      refine lv_aload_n hx hb dX6_readFunctions_107 rfl (lv_at hl 3 rfl) ?_
      obtain ⟨k_44, ek_44, hf⟩ := lnk_some hf
      refine va_get (D := (dC, dI)) (ci := 6) (v := .ref (a k_44)) (C := RX6) (T := TX6) (N := 9) hx hb hts iwd_X6_readFunctions_X6 hown hK hP h0 (Wd_ob kg_3 sg_3 (by decide)) rfl 2 (by decide) (hts _ md_X6_readFunctions_1) (fun _ h9 => h9) (fl_q rfl ek_44) dX6_readFunctions_108 ?_
      refine lv_iload_n hx hb dX6_readFunctions_111 rfl (lv_at hl 1 rfl) ?_
      refine lv_iconst (v := 3) hx hb dX6_readFunctions_112 (by decide) ?_
      refine lv_aload_n hx hb dX6_readFunctions_113 rfl (lv_at hl 3 rfl) ?_
      refine lv_bipush (v := 8) hx hb dX6_readFunctions_114 (by decide) ?_
      obtain ⟨z_45, r_46, hfc, hf⟩ := cal_some hf
      have hFc := de_free hD hS hA
      refine va_calli (va_runV (As := [.int 8]) (rest := [.int 3, .int p_9, .ref (a k_44)]) ⟨hx, hb, hml, hown, hts⟩ (de_X6_readList l dC dI cy a sh n H_43.size F z_41 h0 8 hfc) (cwV 1 hts gX6_readFunctions_X6_readList rfl rfl rfl (by decide +kernel) ⟨Nat.le_of_ble_eq_true rfl, Nat.le_of_ble_eq_true rfl⟩) ⟨fun a U g mk q => by obtain ⟨q0, q1, qP, qK, qD, qN⟩ := q; exact ⟨q0, q1, qP, va_K.moved (u := U) (U := U.calling g mk a) (Vm.Alike.refl U.vm) qK, qD, qN.same rfl⟩, va_recv hK hP (ci := 6) (q0 := h0) rfl (Wd_ob kg_3 sg_3 (by decide)), fun U hU hW => ⟨rfl, by rw [hU], by rw [hU]; exact hP, va_K.moved hW.alike hK, hD.weaken (fun _ _ _ _ => trivial), hN.warm hW⟩⟩ rfl rfl hl.1 rfl (lv_room (Nat.le_of_ble_eq_true rfl)) dX6_readFunctions_116 ⟨Nat.le_of_ble_eq_true rfl, Nat.le_of_ble_eq_true rfl⟩) hS (fun q _ h => hFc q h) hFc (fun rr u t H_47 locs ht hvm hw hB hz1 hk1 hS2 => ?_)
      rw [hw]
      clear hw
      obtain ⟨hP1, -, hD1⟩ := hB
      rw [ht] at hP1
      replace hD := hD1.weaken (fun _ _ _ h => hFc _ h)
      replace hP := hP1
      replace hS := hS2
      clear hP1 hD1 hS2 hFc hfc hz1 hk1 hvm ht
      obtain ⟨g_49, hf⟩ := grd_some hf
      obtain ⟨kg_49, sg_49⟩ := okO_at g_49
      obtain ⟨z_48, _u, hfc, hf⟩ := cal_some hf
      have hFc := de_free hD hS hA
      refine va_callv (va_runV (As := [.int p_9, .int 3, .int r_46]) (rest := []) ⟨hx, hb, hml, hown, hts⟩ (de_X5_setFunction l dC dI cy a sh n H_47.size F z_45 k_44 p_9 3 r_46 hfc) (cwV 3 hts gX6_readFunctions_X5_setFunction rfl rfl rfl (by decide +kernel) ⟨Nat.le_of_ble_eq_true rfl, Nat.le_of_ble_eq_true rfl⟩) ⟨fun a U g mk q => by obtain ⟨q0, q1, qP, qK, qD, qN⟩ := q; exact ⟨q0, q1, qP, va_K.moved (u := U) (U := U.calling g mk a) (Vm.Alike.refl U.vm) qK, qD, qN.same rfl⟩, va_recv hK hP (ci := 5) (q0 := k_44) rfl (Wd_ob kg_49 sg_49 (by decide)), fun U hU hW => ⟨rfl, by rw [hU], by rw [hU]; exact hP, va_K.moved hW.alike hK, hD.weaken (fun _ _ _ _ => trivial), hN.warm hW⟩⟩ rfl rfl hl.1 rfl (lv_room (Nat.le_of_ble_eq_true rfl)) dX6_readFunctions_119 ⟨Nat.le_of_ble_eq_true rfl, Nat.le_of_ble_eq_true rfl⟩) hS (fun q _ h => hFc q h) hFc (fun u t H_50 locs ht hvm hw hB hz1 hk1 hS2 => ?_)
      obtain ⟨hP1, -, hD1⟩ := hB
      rw [ht] at hP1
      replace hD := hD1.weaken (fun _ _ _ h => hFc _ h)
      replace hP := hP1
      replace hS := hS2
      clear hP1 hD1 hS2 hFc hfc hz1 hk1 hvm ht
      refine lv_aload_n hx hb dX6_readFunctions_122 rfl (lv_at hl 3 rfl) ?_
      refine lv_bipush (v := 32) hx hb dX6_readFunctions_123 (by decide) ?_
      obtain ⟨z_51, r_52, hfc, hf⟩ := cal_some hf
      have hFc := de_free hD hS hA
      refine va_calli (va_runV (As := [.int 32]) (rest := []) ⟨hx, hb, hml, hown, hts⟩ (de_X6_readList l dC dI cy a sh n H_50.size F z_48 h0 32 hfc) (cwV 1 hts gX6_readFunctions_X6_readList rfl rfl rfl (by decide +kernel) ⟨Nat.le_of_ble_eq_true rfl, Nat.le_of_ble_eq_true rfl⟩) ⟨fun a U g mk q => by obtain ⟨q0, q1, qP, qK, qD, qN⟩ := q; exact ⟨q0, q1, qP, va_K.moved (u := U) (U := U.calling g mk a) (Vm.Alike.refl U.vm) qK, qD, qN.same rfl⟩, va_recv hK hP (ci := 6) (q0 := h0) rfl (Wd_ob kg_3 sg_3 (by decide)), fun U hU hW => ⟨rfl, by rw [hU], by rw [hU]; exact hP, va_K.moved hW.alike hK, hD.weaken (fun _ _ _ _ => trivial), hN.warm hW⟩⟩ rfl rfl hl.1 rfl (lv_room (Nat.le_of_ble_eq_true rfl)) dX6_readFunctions_125 ⟨Nat.le_of_ble_eq_true rfl, Nat.le_of_ble_eq_true rfl⟩) hS (fun q _ h => hFc q h) hFc (fun rr u t H_53 locs ht hvm hw hB hz1 hk1 hS2 => ?_)
      rw [hw]
      clear hw
      obtain ⟨hP1, -, hD1⟩ := hB
      rw [ht] at hP1
      replace hD := hD1.weaken (fun _ _ _ h => hFc _ h)
      replace hP := hP1
      replace hS := hS2
      clear hP1 hD1 hS2 hFc hfc hz1 hk1 hvm ht
      refine lv_istore (lv' := [(4, .int r_52), (3, .int r_38), (2, .int p_9), (1, .int r_2), (0, .ref (a h0))]) hx hb dX6_readFunctions_128 hl (by decide) rfl (fun ls hl2 => ?_)
      replace hl := hl2
      clear hl2
      refine lv_aload_n hx hb dX6_readFunctions_130 rfl (lv_at hl 4 rfl) ?_
      obtain ⟨k_54, ek_54, hf⟩ := lnk_some hf
      refine va_get (D := (dC, dI)) (ci := 6) (v := .ref (a k_54)) (C := RX6) (T := TX6) (N := 9) hx hb hts iwd_X6_readFunctions_X6 hown hK hP h0 (Wd_ob kg_3 sg_3 (by decide)) rfl 2 (by decide) (hts _ md_X6_readFunctions_1) (fun _ h9 => h9) (fl_q rfl ek_54) dX6_readFunctions_131 ?_
      refine lv_iload_n hx hb dX6_readFunctions_134 rfl (lv_at hl 2 rfl) ?_
      refine lv_iconst (v := 4) hx hb dX6_readFunctions_135 (by decide) ?_
      refine lv_iload hx hb dX6_readFunctions_136 (lv_at hl 0 rfl) ?_
      obtain ⟨g_56, hf⟩ := grd_some hf
      obtain ⟨kg_56, sg_56⟩ := okO_at g_56
      obtain ⟨z_55, _u, hfc, hf⟩ := cal_some hf
      have hFc := de_free hD hS hA
      refine va_callv (va_runV (As := [.int p_9, .int 4, .int r_52]) (rest := []) ⟨hx, hb, hml, hown, hts⟩ (de_X5_setFunction l dC dI cy a sh n H_53.size F z_51 k_54 p_9 4 r_52 hfc) (cwV 3 hts gX6_readFunctions_X5_setFunction rfl rfl rfl (by decide +kernel) ⟨Nat.le_of_ble_eq_true rfl, Nat.le_of_ble_eq_true rfl⟩) ⟨fun a U g mk q => by obtain ⟨q0, q1, qP, qK, qD, qN⟩ := q; exact ⟨q0, q1, qP, va_K.moved (u := U) (U := U.calling g mk a) (Vm.Alike.refl U.vm) qK, qD, qN.same rfl⟩, va_recv hK hP (ci := 5) (q0 := k_54) rfl (Wd_ob kg_56 sg_56 (by decide)), fun U hU hW => ⟨rfl, by rw [hU], by rw [hU]; exact hP, va_K.moved hW.alike hK, hD.weaken (fun _ _ _ _ => trivial), hN.warm hW⟩⟩ rfl rfl hl.1 rfl (lv_room (Nat.le_of_ble_eq_true rfl)) dX6_readFunctions_138 ⟨Nat.le_of_ble_eq_true rfl, Nat.le_of_ble_eq_true rfl⟩) hS (fun q _ h => hFc q h) hFc (fun u t H_57 locs ht hvm hw hB hz1 hk1 hS2 => ?_)
      obtain ⟨hP1, -, hD1⟩ := hB
      rw [ht] at hP1
      replace hD := hD1.weaken (fun _ _ _ h => hFc _ h)
      replace hP := hP1
      replace hS := hS2
      clear hP1 hD1 hS2 hFc hfc hz1 hk1 hvm ht
      refine lv_aload_n hx hb dX6_readFunctions_141 rfl (lv_at hl 4 rfl) ?_
      refine lv_iload_n hx hb dX6_readFunctions_142 rfl (lv_at hl 1 rfl) ?_
      refine lv_iload hx hb dX6_readFunctions_143 (lv_at hl 0 rfl) ?_
      refine lv_iadd hx hb dX6_readFunctions_145 ?_
      refine va_put (D := (dC, dI)) (ci := 6) (v := .int (r_38 + r_52)) (ty := .int) (C := RX6) (T := TX6) (N := 9) hx hb hts iwd_X6_readFunctions_X6 tyX6 tyX6_ok nmX6 hown hK hP hD hS h0 (Wd_ob kg_3 sg_3 (by decide)) rfl 6 (by decide) (hts _ md_X6_readFunctions_6) (fun _ h9 => h9) rfl (by decide +kernel) rfl rfl (by rw [fl_len]; decide) dX6_readFunctions_146 (fun H_58 locs hP2 hD2 hS2 => ?_)
      rw [Wd_si sg_3 (by decide) rfl] at hP2 hD2
      obtain ⟨z_59, ez_59⟩ : ∃ w, w = si z_55 h0 6 (r_38 + r_52) := ⟨_, rfl⟩
      rw [← ez_59] at hP2 hD2
      replace hf := lt_at ez_59 hf
      clear ez_59
      replace hP := hP2
      replace hD := hD2
      replace hS := hS2
      clear hP2 hD2 hS2
      refine lv_aload_n hx hb dX6_readFunctions_149 rfl (lv_at hl 4 rfl) ?_
      refine va_get (D := (dC, dI)) (ci := 6) (v := .int (z_59.1 h0 3)) (C := RX6) (T := TX6) (N := 9) hx hb hts iwd_X6_readFunctions_X6 hown hK hP h0 (Wd_ob kg_3 sg_3 (by decide)) rfl 3 (by decide) (hts _ md_X6_readFunctions_7) (fun _ h9 => h9) (fl_at (t := 0) rfl) dX6_readFunctions_150 ?_
      refine lv_topi (fun v_60 ev_60 => ?_)
      replace hf := lt_at ev_60 hf
      clear ev_60
      refine lv_istore (lv' := [(5, .int v_60), (4, .int r_52), (3, .int r_38), (2, .int p_9), (1, .int r_2), (0, .ref (a h0))]) hx hb dX6_readFunctions_153 hl (by decide) rfl (fun ls hl2 => ?_)
      replace hl := hl2
      clear hl2
      refine lv_aload_n hx hb dX6_readFunctions_155 rfl (lv_at hl 5 rfl) ?_
      refine lv_aload_n hx hb dX6_readFunctions_156 rfl (lv_at hl 5 rfl) ?_
      obtain ⟨z_61, r_62, hfc, hf⟩ := cal_some hf
      have hFc := de_free hD hS hA
      refine va_calli (va_runV (As := []) (rest := [.ref (a h0)]) ⟨hx, hb, hml, hown, hts⟩ (de_X6_readShort l dC dI cy a sh n H_58.size F z_59 h0 hfc) (cwV 0 hts gX6_readFunctions_X6_readShort rfl rfl rfl (by decide +kernel) ⟨Nat.le_of_ble_eq_true rfl, Nat.le_of_ble_eq_true rfl⟩) ⟨fun a U g mk q => by obtain ⟨q0, q1, qP, qK, qD, qN⟩ := q; exact ⟨q0, q1, qP, va_K.moved (u := U) (U := U.calling g mk a) (Vm.Alike.refl U.vm) qK, qD, qN.same rfl⟩, va_recv hK hP (ci := 6) (q0 := h0) rfl (Wd_ob kg_3 sg_3 (by decide)), fun U hU hW => ⟨rfl, by rw [hU], by rw [hU]; exact hP, va_K.moved hW.alike hK, hD.weaken (fun _ _ _ _ => trivial), hN.warm hW⟩⟩ rfl rfl hl.1 rfl (lv_room (Nat.le_of_ble_eq_true rfl)) dX6_readFunctions_157 ⟨Nat.le_of_ble_eq_true rfl, Nat.le_of_ble_eq_true rfl⟩) hS (fun q _ h => hFc q h) hFc (fun rr u t H_63 locs ht hvm hw hB hz1 hk1 hS2 => ?_)
      rw [hw]
      clear hw
      obtain ⟨hP1, -, hD1⟩ := hB
      rw [ht] at hP1
      replace hD := hD1.weaken (fun _ _ _ h => hFc _ h)
      replace hP := hP1
      replace hS := hS2
      clear hP1 hD1 hS2 hFc hfc hz1 hk1 hvm ht
      refine va_put (D := (dC, dI)) (ci := 6) (v := .int r_62) (ty := .int) (C := RX6) (T := TX6) (N := 9) hx hb hts iwd_X6_readFunctions_X6 tyX6 tyX6_ok nmX6 hown hK hP hD hS h0 (Wd_ob kg_3 sg_3 (by decide)) rfl 7 (by decide) (hts _ md_X6_readFunctions_8) (fun _ h9 => h9) rfl (by decide +kernel) rfl rfl (by rw [fl_len]; decide) dX6_readFunctions_160 (fun H_64 locs hP2 hD2 hS2 => ?_)
      rw [Wd_si sg_3 (by decide) rfl] at hP2 hD2
      obtain ⟨z_65, ez_65⟩ : ∃ w, w = si z_61 h0 7 r_62 := ⟨_, rfl⟩
      rw [← ez_65] at hP2 hD2
      replace hf := lt_at ez_65 hf
      clear ez_65
      replace hP := hP2
      replace hD := hD2
      replace hS := hS2
      clear hP2 hD2 hS2
      refine lv_aload_n hx hb dX6_readFunctions_163 rfl (lv_at hl 5 rfl) ?_
      refine lv_dup hx hb dX6_readFunctions_164 rfl ?_
      refine va_get (D := (dC, dI)) (ci := 6) (v := .int (z_65.1 h0 5)) (C := RX6) (T := TX6) (N := 9) hx hb hts iwd_X6_readFunctions_X6 hown hK hP h0 (Wd_ob kg_3 sg_3 (by decide)) rfl 5 (by decide) (hts _ md_X6_readFunctions_9) (fun _ h9 => h9) (fl_at (t := 0) rfl) dX6_readFunctions_165 ?_
      refine lv_aload_n hx hb dX6_readFunctions_168 rfl (lv_at hl 5 rfl) ?_
      refine va_get (D := (dC, dI)) (ci := 6) (v := .int (z_65.1 h0 7)) (C := RX6) (T := TX6) (N := 9) hx hb hts iwd_X6_readFunctions_X6 hown hK hP h0 (Wd_ob kg_3 sg_3 (by decide)) rfl 7 (by decide) (hts _ md_X6_readFunctions_8) (fun _ h9 => h9) (fl_at (t := 0) rfl) dX6_readFunctions_169 ?_
      refine lv_iadd hx hb dX6_readFunctions_172 ?_
      refine va_put (D := (dC, dI)) (ci := 6) (v := .int ((z_65.1 h0 5) + (z_65.1 h0 7))) (ty := .int) (C := RX6) (T := TX6) (N := 9) hx hb hts iwd_X6_readFunctions_X6 tyX6 tyX6_ok nmX6 hown hK hP hD hS h0 (Wd_ob kg_3 sg_3 (by decide)) rfl 5 (by decide) (hts _ md_X6_readFunctions_9) (fun _ h9 => h9) rfl (by decide +kernel) rfl rfl (by rw [fl_len]; decide) dX6_readFunctions_173 (fun H_66 locs hP2 hD2 hS2 => ?_)
      rw [Wd_si sg_3 (by decide) rfl] at hP2 hD2
      obtain ⟨z_67, ez_67⟩ : ∃ w, w = si z_65 h0 5 ((z_65.1 h0 5) + (z_65.1 h0 7)) := ⟨_, rfl⟩
      rw [← ez_67] at hP2 hD2
      replace hf := lt_at ez_67 hf
      clear ez_67
      replace hP := hP2
      replace hD := hD2
      replace hS := hS2
      clear hP2 hD2 hS2
      refine lv_aload_n hx hb dX6_readFunctions_176 rfl (lv_at hl 5 rfl) ?_
      refine va_get (D := (dC, dI)) (ci := 6) (v := .int (z_67.1 h0 7)) (C := RX6) (T := TX6) (N := 9) hx hb hts iwd_X6_readFunctions_X6 hown hK hP h0 (Wd_ob kg_3 sg_3 (by decide)) rfl 7 (by decide) (hts _ md_X6_readFunctions_8) (fun _ h9 => h9) (fl_at (t := 0) rfl) dX6_readFunctions_177 ?_
      refine lv_iconst (v := 1) hx hb dX6_readFunctions_180 (by decide) ?_
      refine de_cut (h := 211) (fun (x : St) => []) (fun x ls H locs => lv_has ls 7 [(2, .int p_9), (1, .int r_2), (0, .ref (a h0))] ∧ va_P (dC, dI) vwCl (Wd cy a sh n x) H ∧ va_D A (Wd cy a sh n x) ∧ va_S A s.heap H locs) (fun x => fn_X6_readFunctions_B211 F sh n h0 p_9 (fun z9 q2 => fn_X6_readFunctions_L18 F sh n r_2 h0 f_11 z9 q2) x) (z8, r8) ?_ (fun B211 => ?_)
      · intro x ls H locs hI hf
        obtain ⟨z_68, ez⟩ : ∃ w, w = x := ⟨_, rfl⟩
        subst ez
        obtain ⟨hl2, hP2, hD2, hS2⟩ := hI
        replace hl : lv_has ls 7 [(2, .int p_9), (1, .int r_2), (0, .ref (a h0))] := hl2
        replace hP := hP2
        replace hD := hD2
        replace hS := hS2
        clear hl2 hP2 hD2 hS2
        replace hf := fn_X6_readFunctions_B211_s hf
        refine W.eq (g2 := F0 m 211 ls []) rfl ?_
        refine lv_aload_n hx hb dX6_readFunctions_211 rfl (lv_at hl 2 rfl) ?_
        obtain ⟨k_69, ek_69, hf⟩ := lnk_some hf
        refine va_get (D := (dC, dI)) (ci := 6) (v := .ref (a k_69)) (C := RX6) (T := TX6) (N := 9) hx hb hts iwd_X6_readFunctions_X6 hown hK hP h0 (Wd_ob kg_3 sg_3 (by decide)) rfl 2 (by decide) (hts _ md_X6_readFunctions_1) (fun _ h9 => h9) (fl_q rfl ek_69) dX6_readFunctions_212 ?_
        refine lv_iload_n hx hb dX6_readFunctions_215 rfl (lv_at hl 0 rfl) ?_
        refine lv_iconst (v := 5) hx hb dX6_readFunctions_216 (by decide) ?_
        refine lv_aload_n hx hb dX6_readFunctions_217 rfl (lv_at hl 2 rfl) ?_
        obtain ⟨k_70, ek_70, hf⟩ := lnk_some hf
        refine va_get (D := (dC, dI)) (ci := 6) (v := .ref (a k_70)) (C := RX6) (T := TX6) (N := 9) hx hb hts iwd_X6_readFunctions_X6 hown hK hP h0 (Wd_ob kg_3 sg_3 (by decide)) rfl 2 (by decide) (hts _ md_X6_readFunctions_1) (fun _ h9 => h9) (fl_q rfl ek_70) dX6_readFunctions_218 ?_
        obtain ⟨g_71, hf⟩ := grd_some hf
        obtain ⟨kg_71, sg_71⟩ := okO_at g_71
        refine va_get (D := (dC, dI)) (ci := 5) (v := .int (z_68.1 k_70 6)) (C := RX5) (T := TX5) (N := 15) hx hb hts iwd_X6_readFunctions_X5 hown hK hP k_70 (Wd_ob kg_71 sg_71 (by decide)) rfl 6 (by decide) (hts _ md_X6_readFunctions_10) (fun _ h9 => h9) (fl_at (t := 0) rfl) dX6_readFunctions_221 ?_
        obtain ⟨g_73, hf⟩ := grd_some hf
        obtain ⟨kg_73, sg_73⟩ := okO_at g_73
        obtain ⟨z_72, _u, hfc, hf⟩ := cal_some hf
        have hFc := de_free hD hS hA
        refine va_callv (va_runV (As := [.int p_9, .int 5, .int (z_68.1 k_70 6)]) (rest := []) ⟨hx, hb, hml, hown, hts⟩ (de_X5_setFunction l dC dI cy a sh n H.size F z_68 k_69 p_9 5 (z_68.1 k_70 6) hfc) (cwV 3 hts gX6_readFunctions_X5_setFunction rfl rfl rfl (by decide +kernel) ⟨Nat.le_of_ble_eq_true rfl, Nat.le_of_ble_eq_true rfl⟩) ⟨fun a U g mk q => by obtain ⟨q0, q1, qP, qK, qD, qN⟩ := q; exact ⟨q0, q1, qP, va_K.moved (u := U) (U := U.calling g mk a) (Vm.Alike.refl U.vm) qK, qD, qN.same rfl⟩, va_recv hK hP (ci := 5) (q0 := k_69) rfl (Wd_ob kg_73 sg_73 (by decide)), fun U hU hW => ⟨rfl, by rw [hU], by rw [hU]; exact hP, va_K.moved hW.alike hK, hD.weaken (fun _ _ _ _ => trivial), hN.warm hW⟩⟩ rfl rfl hl.1 rfl (lv_room (Nat.le_of_ble_eq_true rfl)) dX6_readFunctions_224 ⟨Nat.le_of_ble_eq_true rfl, Nat.le_of_ble_eq_true rfl⟩) hS (fun q _ h => hFc q h) hFc (fun u t H_74 locs ht hvm hw hB hz1 hk1 hS2 => ?_)
        obtain ⟨hP1, -, hD1⟩ := hB
        rw [ht] at hP1
        replace hD := hD1.weaken (fun _ _ _ h => hFc _ h)
        replace hP := hP1
        replace hS := hS2
        clear hP1 hD1 hS2 hFc hfc hz1 hk1 hvm ht
        refine lv_aload_n hx hb dX6_readFunctions_227 rfl (lv_at hl 2 rfl) ?_
        obtain ⟨k_75, ek_75, hf⟩ := lnk_some hf
        refine va_get (D := (dC, dI)) (ci := 6) (v := .ref (a k_75)) (C := RX6) (T := TX6) (N := 9) hx hb hts iwd_X6_readFunctions_X6 hown hK hP h0 (Wd_ob kg_3 sg_3 (by decide)) rfl 2 (by decide) (hts _ md_X6_readFunctions_1) (fun _ h9 => h9) (fl_q rfl ek_75) dX6_readFunctions_228 ?_
        refine lv_iload_n hx hb dX6_readFunctions_231 rfl (lv_at hl 0 rfl) ?_
        refine lv_bipush (v := 6) hx hb dX6_readFunctions_232 (by decide) ?_
        refine lv_aload_n hx hb dX6_readFunctions_234 rfl (lv_at hl 2 rfl) ?_
        refine va_get (D := (dC, dI)) (ci := 6) (v := .int (z_72.1 h0 7)) (C := RX6) (T := TX6) (N := 9) hx hb hts iwd_X6_readFunctions_X6 hown hK hP h0 (Wd_ob kg_3 sg_3 (by decide)) rfl 7 (by decide) (hts _ md_X6_readFunctions_8) (fun _ h9 => h9) (fl_at (t := 0) rfl) dX6_readFunctions_235 ?_
        obtain ⟨g_77, hf⟩ := grd_some hf
        obtain ⟨kg_77, sg_77⟩ := okO_at g_77
        obtain ⟨z_76, _u, hfc, hf⟩ := cal_some hf
        have hFc := de_free hD hS hA
        refine va_callv (va_runV (As := [.int p_9, .int 6, .int (z_72.1 h0 7)]) (rest := []) ⟨hx, hb, hml, hown, hts⟩ (de_X5_setFunction l dC dI cy a sh n H_74.size F z_72 k_75 p_9 6 (z_72.1 h0 7) hfc) (cwV 3 hts gX6_readFunctions_X5_setFunction rfl rfl rfl (by decide +kernel) ⟨Nat.le_of_ble_eq_true rfl, Nat.le_of_ble_eq_true rfl⟩) ⟨fun a U g mk q => by obtain ⟨q0, q1, qP, qK, qD, qN⟩ := q; exact ⟨q0, q1, qP, va_K.moved (u := U) (U := U.calling g mk a) (Vm.Alike.refl U.vm) qK, qD, qN.same rfl⟩, va_recv hK hP (ci := 5) (q0 := k_75) rfl (Wd_ob kg_77 sg_77 (by decide)), fun U hU hW => ⟨rfl, by rw [hU], by rw [hU]; exact hP, va_K.moved hW.alike hK, hD.weaken (fun _ _ _ _ => trivial), hN.warm hW⟩⟩ rfl rfl hl.1 rfl (lv_room (Nat.le_of_ble_eq_true rfl)) dX6_readFunctions_238 ⟨Nat.le_of_ble_eq_true rfl, Nat.le_of_ble_eq_true rfl⟩) hS (fun q _ h => hFc q h) hFc (fun u t H_78 locs ht hvm hw hB hz1 hk1 hS2 => ?_)
        obtain ⟨hP1, -, hD1⟩ := hB
        rw [ht] at hP1
        replace hD := hD1.weaken (fun _ _ _ h => hFc _ h)
        replace hP := hP1
        replace hS := hS2
        clear hP1 hD1 hS2 hFc hfc hz1 hk1 hvm ht
        refine lv_iconst (v := 0) hx hb dX6_readFunctions_241 (by decide) ?_
        refine lv_istore (lv' := [(6, .int 0), (2, .int p_9), (1, .int r_2), (0, .ref (a h0))]) hx hb dX6_readFunctions_242 hl (by decide) rfl (fun ls hl2 => ?_)
        replace hl := hl2
        clear hl2
        have hl0 : lv_has ls 7 [(6, .int 0), (2, .int p_9), (1, .int r_2), (0, .ref (a h0))] := lv_sub hl [0, 1, 2, 3] rfl
        refine de_loop (h := 244) (fun (x : St × Int32) ls H locs => lv_has ls 7 [(6, .int x.2), (2, .int p_9), (1, .int r_2), (0, .ref (a h0))] ∧ va_P (dC, dI) vwCl (Wd cy a sh n x.1) H ∧ va_D A (Wd cy a sh n x.1) ∧ va_S A s.heap H locs) (fun f x => fn_X6_readFunctions_L244 F sh n h0 p_9 (fun z9 q2 => fn_X6_readFunctions_L18 F sh n r_2 h0 f_11 z9 q2) f x.1 x.2) (z8, r8) ?_ (fun _ => rfl) F (z_76, 0) ls H_78 locs ⟨hl0, hP, hD, hS⟩ hf
        intro f_81 x ls H locs ih244 hI hf
        obtain ⟨z_80, p_79⟩ := x
        obtain ⟨hl2, hP2, hD2, hS2⟩ := hI
        replace hl : lv_has ls 7 [(6, .int p_79), (2, .int p_9), (1, .int r_2), (0, .ref (a h0))] := hl2
        replace hP := hP2
        replace hD := hD2
        replace hS := hS2
        clear hl2 hP2 hD2 hS2 hl0
        replace hf := fn_X6_readFunctions_L244_s hf
        refine lv_iload hx hb dX6_readFunctions_244 (lv_at hl 0 rfl) ?_
        refine lv_aload_n hx hb dX6_readFunctions_246 rfl (lv_at hl 3 rfl) ?_
        refine va_get (D := (dC, dI)) (ci := 6) (v := .int (z_80.1 h0 7)) (C := RX6) (T := TX6) (N := 9) hx hb hts iwd_X6_readFunctions_X6 hown hK hP h0 (Wd_ob kg_3 sg_3 (by decide)) rfl 7 (by decide) (hts _ md_X6_readFunctions_8) (fun _ h9 => h9) (fl_at (t := 0) rfl) dX6_readFunctions_247 ?_
        refine de_cut (h := 270) (fun (x : St) => []) (fun x ls H locs => lv_has ls 7 [(2, .int p_9), (1, .int r_2), (0, .ref (a h0))] ∧ va_P (dC, dI) vwCl (Wd cy a sh n x) H ∧ va_D A (Wd cy a sh n x) ∧ va_S A s.heap H locs) (fun x => fn_X6_readFunctions_B270 F sh n p_9 (fun z9 q2 => fn_X6_readFunctions_L18 F sh n r_2 h0 f_11 z9 q2) x) (z8, r8) ?_ (fun B270 => ?_)
        · intro x ls H locs hI hf
          obtain ⟨z_82, ez⟩ : ∃ w, w = x := ⟨_, rfl⟩
          subst ez
          obtain ⟨hl2, hP2, hD2, hS2⟩ := hI
          replace hl : lv_has ls 7 [(2, .int p_9), (1, .int r_2), (0, .ref (a h0))] := hl2
          replace hP := hP2
          replace hD := hD2
          replace hS := hS2
          clear hl2 hP2 hD2 hS2
          replace hf := fn_X6_readFunctions_B270_s hf
          refine W.eq (g2 := F0 m 270 ls []) rfl ?_
          refine lv_iinc (v := (p_9 + 1)) (lv' := [(2, .int (p_9 + 1)), (1, .int r_2), (0, .ref (a h0))]) hx hb dX6_readFunctions_270 hl (k := 0) rfl rfl (by decide) rfl (fun ls hl2 => ?_)
          replace hl := hl2
          clear hl2
          refine lv_goto (tgt := 18) hx hb dX6_readFunctions_273 (by decide) ?_
          exact ih18 (z_82, (p_9 + 1)) ls H locs ⟨lv_sub hl [0, 1, 2] rfl, hP, hD, hS⟩ hf
        refine lv_icmp_ge (tgt := 270) hx hb dX6_readFunctions_250 (by decide) (fun c_83 => ?_) (fun c_83 => ?_)
        · skip
          rw [if_pos c_83] at hf
          exact B270 (z_80) ls H locs ⟨lv_sub hl [1, 2, 3] rfl, hP, hD, hS⟩ hf
        · skip
          rw [if_neg c_83] at hf
          refine lv_aload_n hx hb dX6_readFunctions_253 rfl (lv_at hl 3 rfl) ?_
          refine va_get (D := (dC, dI)) (ci := 6) (v := .int (z_80.1 h0 1)) (C := RX6) (T := TX6) (N := 9) hx hb hts iwd_X6_readFunctions_X6 hown hK hP h0 (Wd_ob kg_3 sg_3 (by decide)) rfl 1 (by decide) (hts _ md_X6_readFunctions_3) (fun _ h9 => h9) (fl_at (t := 0) rfl) dX6_readFunctions_254 ?_
          refine lv_if_ne (tgt := 270) hx hb dX6_readFunctions_257 (by decide) (fun c_84 => ?_) (fun c_84 => ?_)
          · skip
            rw [if_neg c_84] at hf
            exact B270 (z_80) ls H locs ⟨lv_sub hl [1, 2, 3] rfl, hP, hD, hS⟩ hf
          · skip
            rw [if_pos c_84] at hf
            refine lv_aload_n hx hb dX6_readFunctions_260 rfl (lv_at hl 3 rfl) ?_
            obtain ⟨z_85, _u, hfc, hf⟩ := cal_some hf
            have hFc := de_free hD hS hA
            refine va_callv (va_runV (As := []) (rest := []) ⟨hx, hb, hml, hown, hts⟩ (de_X6_readInstruction l dC dI cy a sh n H.size F z_80 h0 hfc) (cwV 0 hts gX6_readFunctions_X6_readInstruction rfl rfl rfl (by decide +kernel) ⟨Nat.le_of_ble_eq_true rfl, Nat.le_of_ble_eq_true rfl⟩) ⟨fun a U g mk q => by obtain ⟨q0, q1, qP, qK, qD, qN⟩ := q; exact ⟨q0, q1, qP, va_K.moved (u := U) (U := U.calling g mk a) (Vm.Alike.refl U.vm) qK, qD, qN.same rfl⟩, va_recv hK hP (ci := 6) (q0 := h0) rfl (Wd_ob kg_3 sg_3 (by decide)), fun U hU hW => ⟨rfl, by rw [hU], by rw [hU]; exact hP, va_K.moved hW.alike hK, hD.weaken (fun _ _ _ _ => trivial), hN.warm hW⟩⟩ rfl rfl hl.1 rfl (lv_room (Nat.le_of_ble_eq_true rfl)) dX6_readFunctions_261 ⟨Nat.le_of_ble_eq_true rfl, Nat.le_of_ble_eq_true rfl⟩) hS (fun q _ h => hFc q h) hFc (fun u t H_86 locs ht hvm hw hB hz1 hk1 hS2 => ?_)
            obtain ⟨hP1, -, hD1⟩ := hB
            rw [ht] at hP1
            replace hD := hD1.weaken (fun _ _ _ h => hFc _ h)
            replace hP := hP1
            replace hS := hS2
            clear hP1 hD1 hS2 hFc hfc hz1 hk1 hvm ht
            refine lv_iinc (v := (p_79 + 1)) (lv' := [(6, .int (p_79 + 1)), (2, .int p_9), (1, .int r_2), (0, .ref (a h0))]) hx hb dX6_readFunctions_264 hl (k := 0) rfl rfl (by decide) rfl (fun ls hl2 => ?_)
            replace hl := hl2
            clear hl2
            refine lv_goto (tgt := 244) hx hb dX6_readFunctions_267 (by decide) ?_
            exact ih244 (z_85, (p_79 + 1)) ls H_86 locs ⟨lv_sub hl [0, 1, 2, 3] rfl, hP, hD, hS⟩ hf
      refine de_cut (h := 204) (fun (x : St) => []) (fun x ls H locs => lv_has ls 7 [(5, .int v_60), (2, .int p_9), (1, .int r_2), (0, .ref (a h0))] ∧ va_P (dC, dI) vwCl (Wd cy a sh n x) H ∧ va_D A (Wd cy a sh n x) ∧ va_S A s.heap H locs) (fun x => fn_X6_readFunctions_B204 F sh n h0 v_60 p_9 (fun z9 q2 => fn_X6_readFunctions_L18 F sh n r_2 h0 f_11 z9 q2) x) (z8, r8) ?_ (fun B204 => ?_)
      · intro x ls H locs hI hf
        obtain ⟨z_87, ez⟩ : ∃ w, w = x := ⟨_, rfl⟩
        subst ez
        obtain ⟨hl2, hP2, hD2, hS2⟩ := hI
        replace hl : lv_has ls 7 [(5, .int v_60), (2, .int p_9), (1, .int r_2), (0, .ref (a h0))] := hl2
        replace hP := hP2
        replace hD := hD2
        replace hS := hS2
        clear hl2 hP2 hD2 hS2
        replace hf := fn_X6_readFunctions_B204_s hf
        refine W.eq (g2 := F0 m 204 ls []) rfl ?_
        refine lv_aload_n hx hb dX6_readFunctions_204 rfl (lv_at hl 3 rfl) ?_
        refine lv_iconst (v := 3) hx hb dX6_readFunctions_205 (by decide) ?_
        refine lv_iload hx hb dX6_readFunctions_206 (lv_at hl 0 rfl) ?_
        obtain ⟨z_88, _u, hfc, hf⟩ := cal_some hf
        have hFc := de_free hD hS hA
        refine va_callv (va_runV (As := [.int 3, .int v_60]) (rest := []) ⟨hx, hb, hml, hown, hts⟩ (de_X6_fail l dC dI cy a sh n H.size F z_87 h0 3 v_60 hfc) (cwV 2 hts gX6_readFunctions_X6_fail rfl rfl rfl (by decide +kernel) ⟨Nat.le_of_ble_eq_true rfl, Nat.le_of_ble_eq_true rfl⟩) ⟨fun a U g mk q => by obtain ⟨q0, q1, qP, qK, qD, qN⟩ := q; exact ⟨q0, q1, qP, va_K.moved (u := U) (U := U.calling g mk a) (Vm.Alike.refl U.vm) qK, qD, qN.same rfl⟩, va_recv hK hP (ci := 6) (q0 := h0) rfl (Wd_ob kg_3 sg_3 (by decide)), fun U hU hW => ⟨rfl, by rw [hU], by rw [hU]; exact hP, va_K.moved hW.alike hK, hD.weaken (fun _ _ _ _ => trivial), hN.warm hW⟩⟩ rfl rfl hl.1 rfl (lv_room (Nat.le_of_ble_eq_true rfl)) dX6_readFunctions_208 ⟨Nat.le_of_ble_eq_true rfl, Nat.le_of_ble_eq_true rfl⟩) hS (fun q _ h => hFc q h) hFc (fun u t H_89 locs ht hvm hw hB hz1 hk1 hS2 => ?_)
        obtain ⟨hP1, -, hD1⟩ := hB
        rw [ht] at hP1
        replace hD := hD1.weaken (fun _ _ _ h => hFc _ h)
        replace hP := hP1
        replace hS := hS2
        clear hP1 hD1 hS2 hFc hfc hz1 hk1 hvm ht
        exact B211 (z_88) ls H_89 locs ⟨lv_sub hl [1, 2, 3] rfl, hP, hD, hS⟩ hf
      refine lv_icmp_lt (tgt := 204) hx hb dX6_readFunctions_181 (by decide) (fun c_90 => ?_) (fun c_90 => ?_)
      · skip
        rw [if_pos c_90] at hf
        exact B204 (z_67) ls H_66 locs ⟨lv_sub hl [0, 3, 4, 5] rfl, hP, hD, hS⟩ hf
      · skip
        rw [if_neg c_90] at hf
        refine lv_aload_n hx hb dX6_readFunctions_184 rfl (lv_at hl 5 rfl) ?_
        refine va_get (D := (dC, dI)) (ci := 6) (v := .int (z_67.1 h0 7)) (C := RX6) (T := TX6) (N := 9) hx hb hts iwd_X6_readFunctions_X6 hown hK hP h0 (Wd_ob kg_3 sg_3 (by decide)) rfl 7 (by decide) (hts _ md_X6_readFunctions_8) (fun _ h9 => h9) (fl_at (t := 0) rfl) dX6_readFunctions_185 ?_
        refine lv_sipush (v := 1024) hx hb dX6_readFunctions_188 (by decide) ?_
        refine lv_icmp_gt (tgt := 204) hx hb dX6_readFunctions_191 (by decide) (fun c_91 => ?_) (fun c_91 => ?_)
        · skip
          rw [if_pos c_91] at hf
          exact B204 (z_67) ls H_66 locs ⟨lv_sub hl [0, 3, 4, 5] rfl, hP, hD, hS⟩ hf
        · skip
          rw [if_neg c_91] at hf
          refine lv_aload_n hx hb dX6_readFunctions_194 rfl (lv_at hl 5 rfl) ?_
          refine va_get (D := (dC, dI)) (ci := 6) (v := .int (z_67.1 h0 5)) (C := RX6) (T := TX6) (N := 9) hx hb hts iwd_X6_readFunctions_X6 hown hK hP h0 (Wd_ob kg_3 sg_3 (by decide)) rfl 5 (by decide) (hts _ md_X6_readFunctions_9) (fun _ h9 => h9) (fl_at (t := 0) rfl) dX6_readFunctions_195 ?_
          refine lv_sipush (v := 8192) hx hb dX6_readFunctions_198 (by decide) ?_
          refine lv_icmp_le (tgt := 211) hx hb dX6_readFunctions_201 (by decide) (fun c_92 => ?_) (fun c_92 => ?_)
          · skip
            rw [if_pos c_92] at hf
            exact B211 (z_67) ls H_66 locs ⟨lv_sub hl [3, 4, 5] rfl, hP, hD, hS⟩ hf
          · skip
            rw [if_neg c_92] at hf
            exact B204 (z_67) ls H_66 locs ⟨lv_sub hl [0, 3, 4, 5] rfl, hP, hD, hS⟩ hf

theorem md_X6_findRound_1 : (.fieldLink RX6 17 "ResourceLedger$Reader" "p" "LResourceLedger$Program;" : Cond) ∈ wsX6_findRound := List.mem_of_getElem? (i := 1) rfl
theorem iwd_X6_findRound_X6 : ∀ w ∈ wsX60, w ∈ wsX6_findRound := fun _ h => List.mem_cons_of_mem _ (List.mem_append_left _ (List.mem_append_right _ h))
theorem md_X6_findRound_2 : (.fieldLink RX6 100 "ResourceLedger$Program" "ownStructures" "I" : Cond) ∈ wsX6_findRound := List.mem_of_getElem? (i := 2) rfl
theorem iwd_X6_findRound_X5 : ∀ w ∈ wsX50, w ∈ wsX6_findRound := fun _ h => List.mem_cons_of_mem _ (List.mem_append_right _ h)
theorem md_X6_findRound_3 : (.fieldLink RX6 11 "ResourceLedger$Reader" "holds" "[I" : Cond) ∈ wsX6_findRound := List.mem_of_getElem? (i := 3) rfl
def fn_X6_findRound_B184 (F : Nat) (sh : Nat → Nat × Nat) (n : Nat) (p_13 : Int32) (ko151 : St → Int32 → Option (St × Unit)) (z_19 : St) : Option (St × Unit) := ko151 z_19 (p_13 + 1)
theorem fn_X6_findRound_B184_s {F : Nat} {sh : Nat → Nat × Nat} {n : Nat} {p_13 : Int32} {ko151 : St → Int32 → Option (St × Unit)} {z_19 : St} {y : St × Unit} (h : fn_X6_findRound_B184 F sh n p_13 ko151 z_19 = some y) : (ko151 z_19 (p_13 + 1)) = some y := h
def fn_X6_findRound_L151 (F : Nat) (sh : Nat → Nat × Nat) (n : Nat) (v_4 : Int32) (h0 : Nat) : Nat → St → Int32 → Option (St × Unit)
  | 0, _, _ => none
  | f_15 + 1, z_14, p_13 => if (v_4 : Int32) ≤ p_13 then some (z_14, ()) else lnk (z_14.2.2 h0 8) (fun k_17 => grd (okA sh n k_17 101 p_13) (if ((((((z_14.1 k_17 p_13.toNatClampNeg) : Int32).toUInt32 >>> ((p_13 : Int32).toUInt32 &&& Int32.toUInt32 31)).toInt32) &&& 1) : Int32) = 0 then fn_X6_findRound_B184 F sh n p_13 (fun z9 q2 => fn_X6_findRound_L151 F sh n v_4 h0 f_15 z9 q2) z_14  else lnk (z_14.2.2 h0 2) (fun k_21 => grd (okO sh n k_21 5) (cal (fn_X5_structureColumn F sh n z_14 k_21 p_13 1) (fun z_22 r_23 => cal (fn_X6_fail F sh n z_22 h0 14 r_23) (fun z_26 _ => fn_X6_findRound_B184 F sh n p_13 (fun z9 q2 => fn_X6_findRound_L151 F sh n v_4 h0 f_15 z9 q2) z_26 ))))))
theorem fn_X6_findRound_L151_s {F : Nat} {sh : Nat → Nat × Nat} {n : Nat} {v_4 : Int32} {h0 : Nat} {f_15 : Nat} {z_14 : St} {p_13 : Int32} {y : St × Unit} (h : fn_X6_findRound_L151 F sh n v_4 h0 (f_15 + 1) z_14 p_13 = some y) : (if (v_4 : Int32) ≤ p_13 then some (z_14, ()) else lnk (z_14.2.2 h0 8) (fun k_17 => grd (okA sh n k_17 101 p_13) (if ((((((z_14.1 k_17 p_13.toNatClampNeg) : Int32).toUInt32 >>> ((p_13 : Int32).toUInt32 &&& Int32.toUInt32 31)).toInt32) &&& 1) : Int32) = 0 then fn_X6_findRound_B184 F sh n p_13 (fun z9 q2 => fn_X6_findRound_L151 F sh n v_4 h0 f_15 z9 q2) z_14  else lnk (z_14.2.2 h0 2) (fun k_21 => grd (okO sh n k_21 5) (cal (fn_X5_structureColumn F sh n z_14 k_21 p_13 1) (fun z_22 r_23 => cal (fn_X6_fail F sh n z_22 h0 14 r_23) (fun z_26 _ => fn_X6_findRound_B184 F sh n p_13 (fun z9 q2 => fn_X6_findRound_L151 F sh n v_4 h0 f_15 z9 q2) z_26 ))))))) = some y := h
def fn_X6_findRound_B137 (F : Nat) (sh : Nat → Nat × Nat) (n : Nat) (p_28 : Int32) (ko104 : St → Int32 → Option (St × Unit)) (z_34 : St) : Option (St × Unit) := ko104 z_34 (p_28 + 1)
theorem fn_X6_findRound_B137_s {F : Nat} {sh : Nat → Nat × Nat} {n : Nat} {p_28 : Int32} {ko104 : St → Int32 → Option (St × Unit)} {z_34 : St} {y : St × Unit} (h : fn_X6_findRound_B137 F sh n p_28 ko104 z_34 = some y) : (ko104 z_34 (p_28 + 1)) = some y := h
def fn_X6_findRound_L104 (F : Nat) (sh : Nat → Nat × Nat) (n : Nat) (v_4 : Int32) (p_9 : Int32) (h0 : Nat) (ko97 : St → Int32 → Option (St × Unit)) : Nat → St → Int32 → Option (St × Unit)
  | 0, _, _ => none
  | f_30 + 1, z_29, p_28 => if (v_4 : Int32) ≤ p_28 then ko97 z_29 (p_9 + 1) else lnk (z_29.2.2 h0 8) (fun k_32 => grd (okA sh n k_32 101 p_28) (if ((((((z_29.1 k_32 p_28.toNatClampNeg) : Int32).toUInt32 >>> ((p_9 : Int32).toUInt32 &&& Int32.toUInt32 31)).toInt32) &&& 1) : Int32) = 0 then fn_X6_findRound_B137 F sh n p_28 (fun z9 q3 => fn_X6_findRound_L104 F sh n v_4 p_9 h0 ko97 f_30 z9 q3) z_29  else lnk (z_29.2.2 h0 8) (fun k_36 => grd (okA sh n k_36 101 p_28) (lnk (z_29.2.2 h0 8) (fun k_38 => grd (okA sh n k_38 101 p_9) (grd (okA sh n k_36 101 p_28) (lt_ (si z_29 k_36 p_28.toNatClampNeg ((z_29.1 k_36 p_28.toNatClampNeg) ||| (z_29.1 k_38 p_9.toNatClampNeg))) (fun z_42 => fn_X6_findRound_B137 F sh n p_28 (fun z9 q3 => fn_X6_findRound_L104 F sh n v_4 p_9 h0 ko97 f_30 z9 q3) z_42 ))))))))
theorem fn_X6_findRound_L104_s {F : Nat} {sh : Nat → Nat × Nat} {n : Nat} {v_4 : Int32} {p_9 : Int32} {h0 : Nat} {ko97 : St → Int32 → Option (St × Unit)} {f_30 : Nat} {z_29 : St} {p_28 : Int32} {y : St × Unit} (h : fn_X6_findRound_L104 F sh n v_4 p_9 h0 ko97 (f_30 + 1) z_29 p_28 = some y) : (if (v_4 : Int32) ≤ p_28 then ko97 z_29 (p_9 + 1) else lnk (z_29.2.2 h0 8) (fun k_32 => grd (okA sh n k_32 101 p_28) (if ((((((z_29.1 k_32 p_28.toNatClampNeg) : Int32).toUInt32 >>> ((p_9 : Int32).toUInt32 &&& Int32.toUInt32 31)).toInt32) &&& 1) : Int32) = 0 then fn_X6_findRound_B137 F sh n p_28 (fun z9 q3 => fn_X6_findRound_L104 F sh n v_4 p_9 h0 ko97 f_30 z9 q3) z_29  else lnk (z_29.2.2 h0 8) (fun k_36 => grd (okA sh n k_36 101 p_28) (lnk (z_29.2.2 h0 8) (fun k_38 => grd (okA sh n k_38 101 p_9) (grd (okA sh n k_36 101 p_28) (lt_ (si z_29 k_36 p_28.toNatClampNeg ((z_29.1 k_36 p_28.toNatClampNeg) ||| (z_29.1 k_38 p_9.toNatClampNeg))) (fun z_42 => fn_X6_findRound_B137 F sh n p_28 (fun z9 q3 => fn_X6_findRound_L104 F sh n v_4 p_9 h0 ko97 f_30 z9 q3) z_42 ))))))))) = some y := h
def fn_X6_findRound_L97 (F : Nat) (sh : Nat → Nat × Nat) (n : Nat) (v_4 : Int32) (h0 : Nat) : Nat → St → Int32 → Option (St × Unit)
  | 0, _, _ => none
  | f_11 + 1, z_10, p_9 => if (v_4 : Int32) ≤ p_9 then fn_X6_findRound_L151 F sh n v_4 h0 F z_10 0 else fn_X6_findRound_L104 F sh n v_4 p_9 h0 (fun z9 q2 => fn_X6_findRound_L97 F sh n v_4 h0 f_11 z9 q2) F z_10 0
theorem fn_X6_findRound_L97_s {F : Nat} {sh : Nat → Nat × Nat} {n : Nat} {v_4 : Int32} {h0 : Nat} {f_11 : Nat} {z_10 : St} {p_9 : Int32} {y : St × Unit} (h : fn_X6_findRound_L97 F sh n v_4 h0 (f_11 + 1) z_10 p_9 = some y) : (if (v_4 : Int32) ≤ p_9 then fn_X6_findRound_L151 F sh n v_4 h0 F z_10 0 else fn_X6_findRound_L104 F sh n v_4 p_9 h0 (fun z9 q2 => fn_X6_findRound_L97 F sh n v_4 h0 f_11 z9 q2) F z_10 0) = some y := h
def fn_X6_findRound_B83 (F : Nat) (sh : Nat → Nat × Nat) (n : Nat) (p_47 : Int32) (ko24 : St → Int32 → Option (St × Unit)) (z_65 : St) : Option (St × Unit) := ko24 z_65 (p_47 + 1)
theorem fn_X6_findRound_B83_s {F : Nat} {sh : Nat → Nat × Nat} {n : Nat} {p_47 : Int32} {ko24 : St → Int32 → Option (St × Unit)} {z_65 : St} {y : St × Unit} (h : fn_X6_findRound_B83 F sh n p_47 ko24 z_65 = some y) : (ko24 z_65 (p_47 + 1)) = some y := h
def fn_X6_findRound_L24 (F : Nat) (sh : Nat → Nat × Nat) (n : Nat) (h0 : Nat) (p_5 : Int32) (v_4 : Int32) (ko10 : St → Int32 → Option (St × Unit)) : Nat → St → Int32 → Option (St × Unit)
  | 0, _, _ => none
  | f_49 + 1, z_48, p_47 => lnk (z_48.2.2 h0 2) (fun k_50 => grd (okO sh n k_50 5) (cal (fn_X5_fieldCount F sh n z_48 k_50 p_5) (fun z_51 r_52 => if (r_52 : Int32) ≤ p_47 then ko10 z_51 (p_5 + 1) else lnk (z_51.2.2 h0 2) (fun k_56 => grd (okO sh n k_56 5) (cal (fn_X5_fieldType F sh n z_51 k_56 p_5 p_47) (fun z_57 r_58 => lt_ (((r_58 : Int64).toInt32) &&& 255) (fun v_61 => cal (fn_X5_endsInStructure F sh n z_57 r_58) (fun z_62 r_63 => if (r_63 : Int32) = 0 then fn_X6_findRound_B83 F sh n p_47 (fun z9 q3 => fn_X6_findRound_L24 F sh n h0 p_5 v_4 ko10 f_49 z9 q3) z_62  else if (v_4 : Int32) ≤ v_61 then fn_X6_findRound_B83 F sh n p_47 (fun z9 q3 => fn_X6_findRound_L24 F sh n h0 p_5 v_4 ko10 f_49 z9 q3) z_62  else lnk (z_62.2.2 h0 8) (fun k_68 => grd (okA sh n k_68 101 p_5) (grd (okA sh n k_68 101 p_5) (lt_ (si z_62 k_68 p_5.toNatClampNeg ((z_62.1 k_68 p_5.toNatClampNeg) ||| (1 <<< (v_61 &&& 31)))) (fun z_72 => fn_X6_findRound_B83 F sh n p_47 (fun z9 q3 => fn_X6_findRound_L24 F sh n h0 p_5 v_4 ko10 f_49 z9 q3) z_72 ))))))))))))
theorem fn_X6_findRound_L24_s {F : Nat} {sh : Nat → Nat × Nat} {n : Nat} {h0 : Nat} {p_5 : Int32} {v_4 : Int32} {ko10 : St → Int32 → Option (St × Unit)} {f_49 : Nat} {z_48 : St} {p_47 : Int32} {y : St × Unit} (h : fn_X6_findRound_L24 F sh n h0 p_5 v_4 ko10 (f_49 + 1) z_48 p_47 = some y) : (lnk (z_48.2.2 h0 2) (fun k_50 => grd (okO sh n k_50 5) (cal (fn_X5_fieldCount F sh n z_48 k_50 p_5) (fun z_51 r_52 => if (r_52 : Int32) ≤ p_47 then ko10 z_51 (p_5 + 1) else lnk (z_51.2.2 h0 2) (fun k_56 => grd (okO sh n k_56 5) (cal (fn_X5_fieldType F sh n z_51 k_56 p_5 p_47) (fun z_57 r_58 => lt_ (((r_58 : Int64).toInt32) &&& 255) (fun v_61 => cal (fn_X5_endsInStructure F sh n z_57 r_58) (fun z_62 r_63 => if (r_63 : Int32) = 0 then fn_X6_findRound_B83 F sh n p_47 (fun z9 q3 => fn_X6_findRound_L24 F sh n h0 p_5 v_4 ko10 f_49 z9 q3) z_62  else if (v_4 : Int32) ≤ v_61 then fn_X6_findRound_B83 F sh n p_47 (fun z9 q3 => fn_X6_findRound_L24 F sh n h0 p_5 v_4 ko10 f_49 z9 q3) z_62  else lnk (z_62.2.2 h0 8) (fun k_68 => grd (okA sh n k_68 101 p_5) (grd (okA sh n k_68 101 p_5) (lt_ (si z_62 k_68 p_5.toNatClampNeg ((z_62.1 k_68 p_5.toNatClampNeg) ||| (1 <<< (v_61 &&& 31)))) (fun z_72 => fn_X6_findRound_B83 F sh n p_47 (fun z9 q3 => fn_X6_findRound_L24 F sh n h0 p_5 v_4 ko10 f_49 z9 q3) z_72 ))))))))))))) = some y := h
def fn_X6_findRound_L10 (F : Nat) (sh : Nat → Nat × Nat) (n : Nat) (v_4 : Int32) (h0 : Nat) : Nat → St → Int32 → Option (St × Unit)
  | 0, _, _ => none
  | f_7 + 1, z_6, p_5 => if (v_4 : Int32) ≤ p_5 then fn_X6_findRound_L97 F sh n v_4 h0 F z_6 0 else lnk (z_6.2.2 h0 8) (fun k_43 => grd (okA sh n k_43 101 p_5) (lt_ (si z_6 k_43 p_5.toNatClampNeg 0) (fun z_46 => fn_X6_findRound_L24 F sh n h0 p_5 v_4 (fun z9 q2 => fn_X6_findRound_L10 F sh n v_4 h0 f_7 z9 q2) F z_46 0)))
theorem fn_X6_findRound_L10_s {F : Nat} {sh : Nat → Nat × Nat} {n : Nat} {v_4 : Int32} {h0 : Nat} {f_7 : Nat} {z_6 : St} {p_5 : Int32} {y : St × Unit} (h : fn_X6_findRound_L10 F sh n v_4 h0 (f_7 + 1) z_6 p_5 = some y) : (if (v_4 : Int32) ≤ p_5 then fn_X6_findRound_L97 F sh n v_4 h0 F z_6 0 else lnk (z_6.2.2 h0 8) (fun k_43 => grd (okA sh n k_43 101 p_5) (lt_ (si z_6 k_43 p_5.toNatClampNeg 0) (fun z_46 => fn_X6_findRound_L24 F sh n h0 p_5 v_4 (fun z9 q2 => fn_X6_findRound_L10 F sh n v_4 h0 f_7 z9 q2) F z_46 0)))) = some y := h
def fn_X6_findRound (F : Nat) (sh : Nat → Nat × Nat) (n : Nat) (z : St) (h0 : Nat) : Option (St × Unit) := grd (okO sh n h0 6) (lnk (z.2.2 h0 2) (fun k_2 => grd (okO sh n k_2 5) (lt_ (z.1 k_2 8) (fun v_4 => fn_X6_findRound_L10 F sh n v_4 h0 F z 0))))
set_option maxHeartbeats 4000000 in
set_option maxRecDepth 100000 in
theorem de_X6_findRound (l : Launch) (dC : Nat → ClassId) (dI : Nat → Nat → Nat) (cy : Nat → ClassId) (a : Nat → Nat) (sh : Nat → Nat × Nat) (n sz : Nat) (F : Nat) (z : St) (h0 : Nat) {z8 : St} {r8 : Unit} (hf : fn_X6_findRound F sh n z h0 = some (z8, r8)) : Met l yX6_findRound wsX6_findRound ({ frames := 2, cells := 0, slots := 0, locals := 44 }) (va_Pc [.ref (a h0)] (fun U => U.heap.size = sz ∧ va_P (dC, dI) vwCl (Wd cy a sh n z) U.heap ∧ va_K (dC, dI) vwCl (TYS cy) U ∧ va_D (fun _ => True) (Wd cy a sh n z) ∧ NK U)) (va_Qv (fun u : Unit => True) (fun u t => va_P (dC, dI) vwCl (Wd cy a sh n z8) t.heap ∧ va_K (dC, dI) vwCl (TYS cy) t ∧ va_D (va_A (Wd cy a sh n z) sz) (Wd cy a sh n z8)) (va_A (Wd cy a sh n z) sz)) 0 0 (va_A (Wd cy a sh n z) sz) := by
  refine Met.ofW (cc := cX6_findRound) (maxL := 7) (ret := none) (by decide) rfl ?_
  intro p e s m args below meth c s₁ B hml hv
  obtain ⟨rfl, hsz, hP, hK, hD0, hN⟩ := hv
  have hx := B.exec
  have hb := B.bytes
  have hr := B.returns
  have hts := atoms_spec (ws := wsX6_findRound) B.pre
  have hown : s.vm.findClass RX6 = some m.cls := findClass_of_methodNamed B.named
  have hlocks := B.notSynchronized
  subst hsz
  have hD := hD0.self (sz := s.heap.size)
  clear hD0
  generalize hAe : va_A (Wd cy a sh n z) s.heap.size = A at hD ⊢
  have hA : ∀ q : Nat, s.heap.size ≤ q → A q := fun q h => by rw [← hAe]; exact Or.inr h
  clear hAe
  have hS : va_S A s.heap s.heap [] := va_S.rf
  have hl := lv_entry ([.ref (a h0)]) (n := 7) (Nat.le_of_ble_eq_true rfl)
  rw [lg_entry_eq]
  generalize (lg_sl ([.ref (a h0)]) ++ List.replicate (7 - (lg_sl ([.ref (a h0)])).length) Slot.unset).toArray = ls at hl ⊢
  replace hl : lv_has ls 7 [(0, .ref (a h0))] := hl
  unfold fn_X6_findRound at hf
  refine de_start hS hP (fun H locs hS hP => ?_)
  refine lv_aload_n hx hb dX6_findRound_0 rfl (lv_at hl 0 rfl) ?_
  obtain ⟨g_1, hf⟩ := grd_some hf
  obtain ⟨kg_1, sg_1⟩ := okO_at g_1
  obtain ⟨k_2, ek_2, hf⟩ := lnk_some hf
  refine va_get (D := (dC, dI)) (ci := 6) (v := .ref (a k_2)) (C := RX6) (T := TX6) (N := 9) hx hb hts iwd_X6_findRound_X6 hown hK hP h0 (Wd_ob kg_1 sg_1 (by decide)) rfl 2 (by decide) (hts _ md_X6_findRound_1) (fun _ h9 => h9) (fl_q rfl ek_2) dX6_findRound_1 ?_
  obtain ⟨g_3, hf⟩ := grd_some hf
  obtain ⟨kg_3, sg_3⟩ := okO_at g_3
  refine va_get (D := (dC, dI)) (ci := 5) (v := .int (z.1 k_2 8)) (C := RX5) (T := TX5) (N := 15) hx hb hts iwd_X6_findRound_X5 hown hK hP k_2 (Wd_ob kg_3 sg_3 (by decide)) rfl 8 (by decide) (hts _ md_X6_findRound_2) (fun _ h9 => h9) (fl_at (t := 0) rfl) dX6_findRound_4 ?_
  refine lv_topi (fun v_4 ev_4 => ?_)
  replace hf := lt_at ev_4 hf
  clear ev_4
  refine lv_istore_n (lv' := [(1, .int v_4), (0, .ref (a h0))]) hx hb dX6_findRound_7 rfl hl (by decide) rfl (fun ls hl2 => ?_)
  replace hl := hl2
  clear hl2
  refine lv_iconst (v := 0) hx hb dX6_findRound_8 (by decide) ?_
  refine lv_istore_n (lv' := [(2, .int 0), (1, .int v_4), (0, .ref (a h0))]) hx hb dX6_findRound_9 rfl hl (by decide) rfl (fun ls hl2 => ?_)
  replace hl := hl2
  clear hl2
  have hl0 : lv_has ls 7 [(2, .int 0), (1, .int v_4), (0, .ref (a h0))] := lv_sub hl [0, 1, 2] rfl
  refine de_loop (h := 10) (fun (x : St × Int32) ls H locs => lv_has ls 7 [(2, .int x.2), (1, .int v_4), (0, .ref (a h0))] ∧ va_P (dC, dI) vwCl (Wd cy a sh n x.1) H ∧ va_D A (Wd cy a sh n x.1) ∧ va_S A s.heap H locs) (fun f x => fn_X6_findRound_L10 F sh n v_4 h0 f x.1 x.2) (z8, r8) ?_ (fun _ => rfl) F (z, 0) ls H locs ⟨hl0, hP, hD, hS⟩ hf
  intro f_7 x ls H locs ih10 hI hf
  obtain ⟨z_6, p_5⟩ := x
  obtain ⟨hl2, hP2, hD2, hS2⟩ := hI
  replace hl : lv_has ls 7 [(2, .int p_5), (1, .int v_4), (0, .ref (a h0))] := hl2
  replace hP := hP2
  replace hD := hD2
  replace hS := hS2
  clear hl2 hP2 hD2 hS2 hl0
  replace hf := fn_X6_findRound_L10_s hf
  refine lv_iload_n hx hb dX6_findRound_10 rfl (lv_at hl 0 rfl) ?_
  refine lv_iload_n hx hb dX6_findRound_11 rfl (lv_at hl 1 rfl) ?_
  refine lv_icmp_ge (tgt := 95) hx hb dX6_findRound_12 (by decide) (fun c_8 => ?_) (fun c_8 => ?_)
  · skip
    rw [if_pos c_8] at hf
    refine lv_iconst (v := 0) hx hb dX6_findRound_95 (by decide) ?_
    refine lv_istore_n (lv' := [(2, .int 0), (1, .int v_4), (0, .ref (a h0))]) hx hb dX6_findRound_96 rfl hl (by decide) rfl (fun ls hl2 => ?_)
    replace hl := hl2
    clear hl2
    have hl0 : lv_has ls 7 [(2, .int 0), (1, .int v_4), (0, .ref (a h0))] := lv_sub hl [0, 1, 2] rfl
    refine de_loop (h := 97) (fun (x : St × Int32) ls H locs => lv_has ls 7 [(2, .int x.2), (1, .int v_4), (0, .ref (a h0))] ∧ va_P (dC, dI) vwCl (Wd cy a sh n x.1) H ∧ va_D A (Wd cy a sh n x.1) ∧ va_S A s.heap H locs) (fun f x => fn_X6_findRound_L97 F sh n v_4 h0 f x.1 x.2) (z8, r8) ?_ (fun _ => rfl) F (z_6, 0) ls H locs ⟨hl0, hP, hD, hS⟩ hf
    intro f_11 x ls H locs ih97 hI hf
    obtain ⟨z_10, p_9⟩ := x
    obtain ⟨hl2, hP2, hD2, hS2⟩ := hI
    replace hl : lv_has ls 7 [(2, .int p_9), (1, .int v_4), (0, .ref (a h0))] := hl2
    replace hP := hP2
    replace hD := hD2
    replace hS := hS2
    clear hl2 hP2 hD2 hS2 hl0
    replace hf := fn_X6_findRound_L97_s hf
    refine lv_iload_n hx hb dX6_findRound_97 rfl (lv_at hl 0 rfl) ?_
    refine lv_iload_n hx hb dX6_findRound_98 rfl (lv_at hl 1 rfl) ?_
    refine lv_icmp_ge (tgt := 149) hx hb dX6_findRound_99 (by decide) (fun c_12 => ?_) (fun c_12 => ?_)
    · skip
      rw [if_pos c_12] at hf
      refine lv_iconst (v := 0) hx hb dX6_findRound_149 (by decide) ?_
      refine lv_istore_n (lv' := [(2, .int 0), (1, .int v_4), (0, .ref (a h0))]) hx hb dX6_findRound_150 rfl hl (by decide) rfl (fun ls hl2 => ?_)
      replace hl := hl2
      clear hl2
      have hl0 : lv_has ls 7 [(2, .int 0), (1, .int v_4), (0, .ref (a h0))] := lv_sub hl [0, 1, 2] rfl
      refine de_loop (h := 151) (fun (x : St × Int32) ls H locs => lv_has ls 7 [(2, .int x.2), (1, .int v_4), (0, .ref (a h0))] ∧ va_P (dC, dI) vwCl (Wd cy a sh n x.1) H ∧ va_D A (Wd cy a sh n x.1) ∧ va_S A s.heap H locs) (fun f x => fn_X6_findRound_L151 F sh n v_4 h0 f x.1 x.2) (z8, r8) ?_ (fun _ => rfl) F (z_10, 0) ls H locs ⟨hl0, hP, hD, hS⟩ hf
      intro f_15 x ls H locs ih151 hI hf
      obtain ⟨z_14, p_13⟩ := x
      obtain ⟨hl2, hP2, hD2, hS2⟩ := hI
      replace hl : lv_has ls 7 [(2, .int p_13), (1, .int v_4), (0, .ref (a h0))] := hl2
      replace hP := hP2
      replace hD := hD2
      replace hS := hS2
      clear hl2 hP2 hD2 hS2 hl0
      replace hf := fn_X6_findRound_L151_s hf
      refine lv_iload_n hx hb dX6_findRound_151 rfl (lv_at hl 0 rfl) ?_
      refine lv_iload_n hx hb dX6_findRound_152 rfl (lv_at hl 1 rfl) ?_
      refine lv_icmp_ge (tgt := 190) hx hb dX6_findRound_153 (by decide) (fun c_16 => ?_) (fun c_16 => ?_)
      · skip
        rw [if_pos c_16] at hf
        obtain ⟨h8, h9⟩ := ret_some hf
        rw [h8]
        exact W.vret hx hb hr (fun t ht hW => ⟨⟨(), rfl, trivial, by rw [ht]; exact hP, va_K.moved hW.alike hK, hD⟩, hS.F ht⟩) hS.2.2 dX6_findRound_190
      · skip
        rw [if_neg c_16] at hf
        refine lv_aload_n hx hb dX6_findRound_156 rfl (lv_at hl 2 rfl) ?_
        obtain ⟨k_17, ek_17, hf⟩ := lnk_some hf
        refine va_get (D := (dC, dI)) (ci := 6) (v := .ref (a k_17)) (C := RX6) (T := TX6) (N := 9) hx hb hts iwd_X6_findRound_X6 hown hK hP h0 (Wd_ob kg_1 sg_1 (by decide)) rfl 8 (by decide) (hts _ md_X6_findRound_3) (fun _ h9 => h9) (fl_q rfl ek_17) dX6_findRound_157 ?_
        refine lv_iload_n hx hb dX6_findRound_160 rfl (lv_at hl 0 rfl) ?_
        obtain ⟨g_18, hf⟩ := grd_some hf
        obtain ⟨kg_18, sg_18, ig_18⟩ := okA_at g_18
        refine va_iald hx hb hK hP k_17 1 (Wd_ai kg_18 sg_18) rfl ig_18 dX6_findRound_161 ?_
        refine lv_iload_n hx hb dX6_findRound_162 rfl (lv_at hl 0 rfl) ?_
        refine lv_iushr (v := (((z_14.1 k_17 p_13.toNatClampNeg) : Int32).toUInt32 >>> ((p_13 : Int32).toUInt32 &&& Int32.toUInt32 31)).toInt32) hx hb dX6_findRound_163 rfl ?_
        refine lv_iconst (v := 1) hx hb dX6_findRound_164 (by decide) ?_
        refine lv_iand hx hb dX6_findRound_165 ?_
        refine de_cut (h := 184) (fun (x : St) => []) (fun x ls H locs => lv_has ls 7 [(2, .int p_13), (1, .int v_4), (0, .ref (a h0))] ∧ va_P (dC, dI) vwCl (Wd cy a sh n x) H ∧ va_D A (Wd cy a sh n x) ∧ va_S A s.heap H locs) (fun x => fn_X6_findRound_B184 F sh n p_13 (fun z9 q2 => fn_X6_findRound_L151 F sh n v_4 h0 f_15 z9 q2) x) (z8, r8) ?_ (fun B184 => ?_)
        · intro x ls H locs hI hf
          obtain ⟨z_19, ez⟩ : ∃ w, w = x := ⟨_, rfl⟩
          subst ez
          obtain ⟨hl2, hP2, hD2, hS2⟩ := hI
          replace hl : lv_has ls 7 [(2, .int p_13), (1, .int v_4), (0, .ref (a h0))] := hl2
          replace hP := hP2
          replace hD := hD2
          replace hS := hS2
          clear hl2 hP2 hD2 hS2
          replace hf := fn_X6_findRound_B184_s hf
          refine W.eq (g2 := F0 m 184 ls []) rfl ?_
          refine lv_iinc (v := (p_13 + 1)) (lv' := [(2, .int (p_13 + 1)), (1, .int v_4), (0, .ref (a h0))]) hx hb dX6_findRound_184 hl (k := 0) rfl rfl (by decide) rfl (fun ls hl2 => ?_)
          replace hl := hl2
          clear hl2
          refine lv_goto (tgt := 151) hx hb dX6_findRound_187 (by decide) ?_
          exact ih151 (z_19, (p_13 + 1)) ls H locs ⟨lv_sub hl [0, 1, 2] rfl, hP, hD, hS⟩ hf
        refine lv_if_eq (tgt := 184) hx hb dX6_findRound_166 (by decide) (fun c_20 => ?_) (fun c_20 => ?_)
        · skip
          rw [if_pos c_20] at hf
          exact B184 (z_14) ls H locs ⟨lv_sub hl [0, 1, 2] rfl, hP, hD, hS⟩ hf
        · skip
          rw [if_neg c_20] at hf
          refine lv_aload_n hx hb dX6_findRound_169 rfl (lv_at hl 2 rfl) ?_
          refine lv_bipush (v := 14) hx hb dX6_findRound_170 (by decide) ?_
          refine lv_aload_n hx hb dX6_findRound_172 rfl (lv_at hl 2 rfl) ?_
          obtain ⟨k_21, ek_21, hf⟩ := lnk_some hf
          refine va_get (D := (dC, dI)) (ci := 6) (v := .ref (a k_21)) (C := RX6) (T := TX6) (N := 9) hx hb hts iwd_X6_findRound_X6 hown hK hP h0 (Wd_ob kg_1 sg_1 (by decide)) rfl 2 (by decide) (hts _ md_X6_findRound_1) (fun _ h9 => h9) (fl_q rfl ek_21) dX6_findRound_173 ?_
          refine lv_iload_n hx hb dX6_findRound_176 rfl (lv_at hl 0 rfl) ?_
          refine lv_iconst (v := 1) hx hb dX6_findRound_177 (by decide) ?_
          obtain ⟨g_24, hf⟩ := grd_some hf
          obtain ⟨kg_24, sg_24⟩ := okO_at g_24
          obtain ⟨z_22, r_23, hfc, hf⟩ := cal_some hf
          have hFc := de_free hD hS hA
          refine va_calli (va_runV (As := [.int p_13, .int 1]) (rest := [.int 14, .ref (a h0)]) ⟨hx, hb, hml, hown, hts⟩ (de_X5_structureColumn l dC dI cy a sh n H.size F z_14 k_21 p_13 1 hfc) (cwV 2 hts gX6_findRound_X5_structureColumn rfl rfl rfl (by decide +kernel) ⟨Nat.le_of_ble_eq_true rfl, Nat.le_of_ble_eq_true rfl⟩) ⟨fun a U g mk q => by obtain ⟨q0, q1, qP, qK, qD, qN⟩ := q; exact ⟨q0, q1, qP, va_K.moved (u := U) (U := U.calling g mk a) (Vm.Alike.refl U.vm) qK, qD, qN.same rfl⟩, va_recv hK hP (ci := 5) (q0 := k_21) rfl (Wd_ob kg_24 sg_24 (by decide)), fun U hU hW => ⟨rfl, by rw [hU], by rw [hU]; exact hP, va_K.moved hW.alike hK, hD.weaken (fun _ _ _ _ => trivial), hN.warm hW⟩⟩ rfl rfl hl.1 rfl (lv_room (Nat.le_of_ble_eq_true rfl)) dX6_findRound_178 ⟨Nat.le_of_ble_eq_true rfl, Nat.le_of_ble_eq_true rfl⟩) hS (fun q _ h => hFc q h) hFc (fun rr u t H_25 locs ht hvm hw hB hz1 hk1 hS2 => ?_)
          rw [hw]
          clear hw
          obtain ⟨hP1, -, hD1⟩ := hB
          rw [ht] at hP1
          replace hD := hD1.weaken (fun _ _ _ h => hFc _ h)
          replace hP := hP1
          replace hS := hS2
          clear hP1 hD1 hS2 hFc hfc hz1 hk1 hvm ht
          obtain ⟨z_26, _u, hfc, hf⟩ := cal_some hf
          have hFc := de_free hD hS hA
          refine va_callv (va_runV (As := [.int 14, .int r_23]) (rest := []) ⟨hx, hb, hml, hown, hts⟩ (de_X6_fail l dC dI cy a sh n H_25.size F z_22 h0 14 r_23 hfc) (cwV 2 hts gX6_findRound_X6_fail rfl rfl rfl (by decide +kernel) ⟨Nat.le_of_ble_eq_true rfl, Nat.le_of_ble_eq_true rfl⟩) ⟨fun a U g mk q => by obtain ⟨q0, q1, qP, qK, qD, qN⟩ := q; exact ⟨q0, q1, qP, va_K.moved (u := U) (U := U.calling g mk a) (Vm.Alike.refl U.vm) qK, qD, qN.same rfl⟩, va_recv hK hP (ci := 6) (q0 := h0) rfl (Wd_ob kg_1 sg_1 (by decide)), fun U hU hW => ⟨rfl, by rw [hU], by rw [hU]; exact hP, va_K.moved hW.alike hK, hD.weaken (fun _ _ _ _ => trivial), hN.warm hW⟩⟩ rfl rfl hl.1 rfl (lv_room (Nat.le_of_ble_eq_true rfl)) dX6_findRound_181 ⟨Nat.le_of_ble_eq_true rfl, Nat.le_of_ble_eq_true rfl⟩) hS (fun q _ h => hFc q h) hFc (fun u t H_27 locs ht hvm hw hB hz1 hk1 hS2 => ?_)
          obtain ⟨hP1, -, hD1⟩ := hB
          rw [ht] at hP1
          replace hD := hD1.weaken (fun _ _ _ h => hFc _ h)
          replace hP := hP1
          replace hS := hS2
          clear hP1 hD1 hS2 hFc hfc hz1 hk1 hvm ht
          exact B184 (z_26) ls H_27 locs ⟨lv_sub hl [0, 1, 2] rfl, hP, hD, hS⟩ hf
    · skip
      rw [if_neg c_12] at hf
      refine lv_iconst (v := 0) hx hb dX6_findRound_102 (by decide) ?_
      refine lv_istore_n (lv' := [(3, .int 0), (2, .int p_9), (1, .int v_4), (0, .ref (a h0))]) hx hb dX6_findRound_103 rfl hl (by decide) rfl (fun ls hl2 => ?_)
      replace hl := hl2
      clear hl2
      have hl0 : lv_has ls 7 [(3, .int 0), (2, .int p_9), (1, .int v_4), (0, .ref (a h0))] := lv_sub hl [0, 1, 2, 3] rfl
      refine de_loop (h := 104) (fun (x : St × Int32) ls H locs => lv_has ls 7 [(3, .int x.2), (2, .int p_9), (1, .int v_4), (0, .ref (a h0))] ∧ va_P (dC, dI) vwCl (Wd cy a sh n x.1) H ∧ va_D A (Wd cy a sh n x.1) ∧ va_S A s.heap H locs) (fun f x => fn_X6_findRound_L104 F sh n v_4 p_9 h0 (fun z9 q2 => fn_X6_findRound_L97 F sh n v_4 h0 f_11 z9 q2) f x.1 x.2) (z8, r8) ?_ (fun _ => rfl) F (z_10, 0) ls H locs ⟨hl0, hP, hD, hS⟩ hf
      intro f_30 x ls H locs ih104 hI hf
      obtain ⟨z_29, p_28⟩ := x
      obtain ⟨hl2, hP2, hD2, hS2⟩ := hI
      replace hl : lv_has ls 7 [(3, .int p_28), (2, .int p_9), (1, .int v_4), (0, .ref (a h0))] := hl2
      replace hP := hP2
      replace hD := hD2
      replace hS := hS2
      clear hl2 hP2 hD2 hS2 hl0
      replace hf := fn_X6_findRound_L104_s hf
      refine lv_iload_n hx hb dX6_findRound_104 rfl (lv_at hl 0 rfl) ?_
      refine lv_iload_n hx hb dX6_findRound_105 rfl (lv_at hl 2 rfl) ?_
      refine lv_icmp_ge (tgt := 143) hx hb dX6_findRound_106 (by decide) (fun c_31 => ?_) (fun c_31 => ?_)
      · skip
        rw [if_pos c_31] at hf
        refine lv_iinc (v := (p_9 + 1)) (lv' := [(2, .int (p_9 + 1)), (3, .int p_28), (1, .int v_4), (0, .ref (a h0))]) hx hb dX6_findRound_143 hl (k := 1) rfl rfl (by decide) rfl (fun ls hl2 => ?_)
        replace hl := hl2
        clear hl2
        refine lv_goto (tgt := 97) hx hb dX6_findRound_146 (by decide) ?_
        exact ih97 (z_29, (p_9 + 1)) ls H locs ⟨lv_sub hl [0, 2, 3] rfl, hP, hD, hS⟩ hf
      · skip
        rw [if_neg c_31] at hf
        refine lv_aload_n hx hb dX6_findRound_109 rfl (lv_at hl 3 rfl) ?_
        obtain ⟨k_32, ek_32, hf⟩ := lnk_some hf
        refine va_get (D := (dC, dI)) (ci := 6) (v := .ref (a k_32)) (C := RX6) (T := TX6) (N := 9) hx hb hts iwd_X6_findRound_X6 hown hK hP h0 (Wd_ob kg_1 sg_1 (by decide)) rfl 8 (by decide) (hts _ md_X6_findRound_3) (fun _ h9 => h9) (fl_q rfl ek_32) dX6_findRound_110 ?_
        refine lv_iload_n hx hb dX6_findRound_113 rfl (lv_at hl 0 rfl) ?_
        obtain ⟨g_33, hf⟩ := grd_some hf
        obtain ⟨kg_33, sg_33, ig_33⟩ := okA_at g_33
        refine va_iald hx hb hK hP k_32 1 (Wd_ai kg_33 sg_33) rfl ig_33 dX6_findRound_114 ?_
        refine lv_iload_n hx hb dX6_findRound_115 rfl (lv_at hl 1 rfl) ?_
        refine lv_iushr (v := (((z_29.1 k_32 p_28.toNatClampNeg) : Int32).toUInt32 >>> ((p_9 : Int32).toUInt32 &&& Int32.toUInt32 31)).toInt32) hx hb dX6_findRound_116 rfl ?_
        refine lv_iconst (v := 1) hx hb dX6_findRound_117 (by decide) ?_
        refine lv_iand hx hb dX6_findRound_118 ?_
        refine de_cut (h := 137) (fun (x : St) => []) (fun x ls H locs => lv_has ls 7 [(3, .int p_28), (2, .int p_9), (1, .int v_4), (0, .ref (a h0))] ∧ va_P (dC, dI) vwCl (Wd cy a sh n x) H ∧ va_D A (Wd cy a sh n x) ∧ va_S A s.heap H locs) (fun x => fn_X6_findRound_B137 F sh n p_28 (fun z9 q3 => fn_X6_findRound_L104 F sh n v_4 p_9 h0 (fun z9 q2 => fn_X6_findRound_L97 F sh n v_4 h0 f_11 z9 q2) f_30 z9 q3) x) (z8, r8) ?_ (fun B137 => ?_)
        · intro x ls H locs hI hf
          obtain ⟨z_34, ez⟩ : ∃ w, w = x := ⟨_, rfl⟩
          subst ez
          obtain ⟨hl2, hP2, hD2, hS2⟩ := hI
          replace hl : lv_has ls 7 [(3, .int p_28), (2, .int p_9), (1, .int v_4), (0, .ref (a h0))] := hl2
          replace hP := hP2
          replace hD := hD2
          replace hS := hS2
          clear hl2 hP2 hD2 hS2
          replace hf := fn_X6_findRound_B137_s hf
          refine W.eq (g2 := F0 m 137 ls []) rfl ?_
          refine lv_iinc (v := (p_28 + 1)) (lv' := [(3, .int (p_28 + 1)), (2, .int p_9), (1, .int v_4), (0, .ref (a h0))]) hx hb dX6_findRound_137 hl (k := 0) rfl rfl (by decide) rfl (fun ls hl2 => ?_)
          replace hl := hl2
          clear hl2
          refine lv_goto (tgt := 104) hx hb dX6_findRound_140 (by decide) ?_
          exact ih104 (z_34, (p_28 + 1)) ls H locs ⟨lv_sub hl [0, 1, 2, 3] rfl, hP, hD, hS⟩ hf
        refine lv_if_eq (tgt := 137) hx hb dX6_findRound_119 (by decide) (fun c_35 => ?_) (fun c_35 => ?_)
        · skip
          rw [if_pos c_35] at hf
          exact B137 (z_29) ls H locs ⟨lv_sub hl [0, 1, 2, 3] rfl, hP, hD, hS⟩ hf
        · skip
          rw [if_neg c_35] at hf
          refine lv_aload_n hx hb dX6_findRound_122 rfl (lv_at hl 3 rfl) ?_
          obtain ⟨k_36, ek_36, hf⟩ := lnk_some hf
          refine va_get (D := (dC, dI)) (ci := 6) (v := .ref (a k_36)) (C := RX6) (T := TX6) (N := 9) hx hb hts iwd_X6_findRound_X6 hown hK hP h0 (Wd_ob kg_1 sg_1 (by decide)) rfl 8 (by decide) (hts _ md_X6_findRound_3) (fun _ h9 => h9) (fl_q rfl ek_36) dX6_findRound_123 ?_
          refine lv_iload_n hx hb dX6_findRound_126 rfl (lv_at hl 0 rfl) ?_
          refine lv_dup2_11 hx hb dX6_findRound_127 rfl rfl ?_
          obtain ⟨g_37, hf⟩ := grd_some hf
          obtain ⟨kg_37, sg_37, ig_37⟩ := okA_at g_37
          refine va_iald hx hb hK hP k_36 1 (Wd_ai kg_37 sg_37) rfl ig_37 dX6_findRound_128 ?_
          refine lv_aload_n hx hb dX6_findRound_129 rfl (lv_at hl 3 rfl) ?_
          obtain ⟨k_38, ek_38, hf⟩ := lnk_some hf
          refine va_get (D := (dC, dI)) (ci := 6) (v := .ref (a k_38)) (C := RX6) (T := TX6) (N := 9) hx hb hts iwd_X6_findRound_X6 hown hK hP h0 (Wd_ob kg_1 sg_1 (by decide)) rfl 8 (by decide) (hts _ md_X6_findRound_3) (fun _ h9 => h9) (fl_q rfl ek_38) dX6_findRound_130 ?_
          refine lv_iload_n hx hb dX6_findRound_133 rfl (lv_at hl 1 rfl) ?_
          obtain ⟨g_39, hf⟩ := grd_some hf
          obtain ⟨kg_39, sg_39, ig_39⟩ := okA_at g_39
          refine va_iald hx hb hK hP k_38 1 (Wd_ai kg_39 sg_39) rfl ig_39 dX6_findRound_134 ?_
          refine lv_ior hx hb dX6_findRound_135 ?_
          obtain ⟨g_40, hf⟩ := grd_some hf
          obtain ⟨kg_40, sg_40, ig_40⟩ := okA_at g_40
          refine va_iast hx hb hK hP hD hS k_36 1 (Wd_ai kg_40 sg_40) rfl ig_40 dX6_findRound_136 (fun H_41 locs hP2 hD2 hS2 => ?_)
          rw [Wd_ti sg_40] at hP2 hD2
          obtain ⟨z_42, ez_42⟩ : ∃ w, w = si z_29 k_36 p_28.toNatClampNeg ((z_29.1 k_36 p_28.toNatClampNeg) ||| (z_29.1 k_38 p_9.toNatClampNeg)) := ⟨_, rfl⟩
          rw [← ez_42] at hP2 hD2
          replace hf := lt_at ez_42 hf
          clear ez_42
          replace hP := hP2
          replace hD := hD2
          replace hS := hS2
          clear hP2 hD2 hS2
          exact B137 (z_42) ls H_41 locs ⟨lv_sub hl [0, 1, 2, 3] rfl, hP, hD, hS⟩ hf
  · skip
    rw [if_neg c_8] at hf
    refine lv_aload_n hx hb dX6_findRound_15 rfl (lv_at hl 2 rfl) ?_
    obtain ⟨k_43, ek_43, hf⟩ := lnk_some hf
    refine va_get (D := (dC, dI)) (ci := 6) (v := .ref (a k_43)) (C := RX6) (T := TX6) (N := 9) hx hb hts iwd_X6_findRound_X6 hown hK hP h0 (Wd_ob kg_1 sg_1 (by decide)) rfl 8 (by decide) (hts _ md_X6_findRound_3) (fun _ h9 => h9) (fl_q rfl ek_43) dX6_findRound_16 ?_
    refine lv_iload_n hx hb dX6_findRound_19 rfl (lv_at hl 0 rfl) ?_
    refine lv_iconst (v := 0) hx hb dX6_findRound_20 (by decide) ?_
    obtain ⟨g_44, hf⟩ := grd_some hf
    obtain ⟨kg_44, sg_44, ig_44⟩ := okA_at g_44
    refine va_iast hx hb hK hP hD hS k_43 1 (Wd_ai kg_44 sg_44) rfl ig_44 dX6_findRound_21 (fun H_45 locs hP2 hD2 hS2 => ?_)
    rw [Wd_ti sg_44] at hP2 hD2
    obtain ⟨z_46, ez_46⟩ : ∃ w, w = si z_6 k_43 p_5.toNatClampNeg 0 := ⟨_, rfl⟩
    rw [← ez_46] at hP2 hD2
    replace hf := lt_at ez_46 hf
    clear ez_46
    replace hP := hP2
    replace hD := hD2
    replace hS := hS2
    clear hP2 hD2 hS2
    refine lv_iconst (v := 0) hx hb dX6_findRound_22 (by decide) ?_
    refine lv_istore_n (lv' := [(3, .int 0), (2, .int p_5), (1, .int v_4), (0, .ref (a h0))]) hx hb dX6_findRound_23 rfl hl (by decide) rfl (fun ls hl2 => ?_)
    replace hl := hl2
    clear hl2
    have hl0 : lv_has ls 7 [(3, .int 0), (2, .int p_5), (1, .int v_4), (0, .ref (a h0))] := lv_sub hl [0, 1, 2, 3] rfl
    refine de_loop (h := 24) (fun (x : St × Int32) ls H locs => lv_has ls 7 [(3, .int x.2), (2, .int p_5), (1, .int v_4), (0, .ref (a h0))] ∧ va_P (dC, dI) vwCl (Wd cy a sh n x.1) H ∧ va_D A (Wd cy a sh n x.1) ∧ va_S A s.heap H locs) (fun f x => fn_X6_findRound_L24 F sh n h0 p_5 v_4 (fun z9 q2 => fn_X6_findRound_L10 F sh n v_4 h0 f_7 z9 q2) f x.1 x.2) (z8, r8) ?_ (fun _ => rfl) F (z_46, 0) ls H_45 locs ⟨hl0, hP, hD, hS⟩ hf
    intro f_49 x ls H locs ih24 hI hf
    obtain ⟨z_48, p_47⟩ := x
    obtain ⟨hl2, hP2, hD2, hS2⟩ := hI
    replace hl : lv_has ls 7 [(3, .int p_47), (2, .int p_5), (1, .int v_4), (0, .ref (a h0))] := hl2
    replace hP := hP2
    replace hD := hD2
    replace hS := hS2
    clear hl2 hP2 hD2 hS2 hl0
    replace hf := fn_X6_findRound_L24_s hf
    refine lv_iload_n hx hb dX6_findRound_24 rfl (lv_at hl 0 rfl) ?_
    refine lv_aload_n hx hb dX6_findRound_25 rfl (lv_at hl 3 rfl) ?_
    obtain ⟨k_50, ek_50, hf⟩ := lnk_some hf
    refine va_get (D := (dC, dI)) (ci := 6) (v := .ref (a k_50)) (C := RX6) (T := TX6) (N := 9) hx hb hts iwd_X6_findRound_X6 hown hK hP h0 (Wd_ob kg_1 sg_1 (by decide)) rfl 2 (by decide) (hts _ md_X6_findRound_1) (fun _ h9 => h9) (fl_q rfl ek_50) dX6_findRound_26 ?_
    refine lv_iload_n hx hb dX6_findRound_29 rfl (lv_at hl 1 rfl) ?_
    obtain ⟨g_53, hf⟩ := grd_some hf
    obtain ⟨kg_53, sg_53⟩ := okO_at g_53
    obtain ⟨z_51, r_52, hfc, hf⟩ := cal_some hf
    have hFc := de_free hD hS hA
    refine va_calli (va_runV (As := [.int p_5]) (rest := [.int p_47]) ⟨hx, hb, hml, hown, hts⟩ (de_X5_fieldCount l dC dI cy a sh n H.size F z_48 k_50 p_5 hfc) (cwV 1 hts gX6_findRound_X5_fieldCount rfl rfl rfl (by decide +kernel) ⟨Nat.le_of_ble_eq_true rfl, Nat.le_of_ble_eq_true rfl⟩) ⟨fun a U g mk q => by obtain ⟨q0, q1, qP, qK, qD, qN⟩ := q; exact ⟨q0, q1, qP, va_K.moved (u := U) (U := U.calling g mk a) (Vm.Alike.refl U.vm) qK, qD, qN.same rfl⟩, va_recv hK hP (ci := 5) (q0 := k_50) rfl (Wd_ob kg_53 sg_53 (by decide)), fun U hU hW => ⟨rfl, by rw [hU], by rw [hU]; exact hP, va_K.moved hW.alike hK, hD.weaken (fun _ _ _ _ => trivial), hN.warm hW⟩⟩ rfl rfl hl.1 rfl (lv_room (Nat.le_of_ble_eq_true rfl)) dX6_findRound_30 ⟨Nat.le_of_ble_eq_true rfl, Nat.le_of_ble_eq_true rfl⟩) hS (fun q _ h => hFc q h) hFc (fun rr u t H_54 locs ht hvm hw hB hz1 hk1 hS2 => ?_)
    rw [hw]
    clear hw
    obtain ⟨hP1, -, hD1⟩ := hB
    rw [ht] at hP1
    replace hD := hD1.weaken (fun _ _ _ h => hFc _ h)
    replace hP := hP1
    replace hS := hS2
    clear hP1 hD1 hS2 hFc hfc hz1 hk1 hvm ht
    refine lv_icmp_ge (tgt := 89) hx hb dX6_findRound_33 (by decide) (fun c_55 => ?_) (fun c_55 => ?_)
    · skip
      rw [if_pos c_55] at hf
      refine lv_iinc (v := (p_5 + 1)) (lv' := [(2, .int (p_5 + 1)), (3, .int p_47), (1, .int v_4), (0, .ref (a h0))]) hx hb dX6_findRound_89 hl (k := 1) rfl rfl (by decide) rfl (fun ls hl2 => ?_)
      replace hl := hl2
      clear hl2
      refine lv_goto (tgt := 10) hx hb dX6_findRound_92 (by decide) ?_
      exact ih10 (z_51, (p_5 + 1)) ls H_54 locs ⟨lv_sub hl [0, 2, 3] rfl, hP, hD, hS⟩ hf
    · skip
      rw [if_neg c_55] at hf
      refine lv_aload_n hx hb dX6_findRound_36 rfl (lv_at hl 3 rfl) ?_
      obtain ⟨k_56, ek_56, hf⟩ := lnk_some hf
      refine va_get (D := (dC, dI)) (ci := 6) (v := .ref (a k_56)) (C := RX6) (T := TX6) (N := 9) hx hb hts iwd_X6_findRound_X6 hown hK hP h0 (Wd_ob kg_1 sg_1 (by decide)) rfl 2 (by decide) (hts _ md_X6_findRound_1) (fun _ h9 => h9) (fl_q rfl ek_56) dX6_findRound_37 ?_
      refine lv_iload_n hx hb dX6_findRound_40 rfl (lv_at hl 1 rfl) ?_
      refine lv_iload_n hx hb dX6_findRound_41 rfl (lv_at hl 0 rfl) ?_
      obtain ⟨g_59, hf⟩ := grd_some hf
      obtain ⟨kg_59, sg_59⟩ := okO_at g_59
      obtain ⟨z_57, r_58, hfc, hf⟩ := cal_some hf
      have hFc := de_free hD hS hA
      refine va_calll (va_runV (As := [.int p_5, .int p_47]) (rest := []) ⟨hx, hb, hml, hown, hts⟩ (de_X5_fieldType l dC dI cy a sh n H_54.size F z_51 k_56 p_5 p_47 hfc) (cwV 2 hts gX6_findRound_X5_fieldType rfl rfl rfl (by decide +kernel) ⟨Nat.le_of_ble_eq_true rfl, Nat.le_of_ble_eq_true rfl⟩) ⟨fun a U g mk q => by obtain ⟨q0, q1, qP, qK, qD, qN⟩ := q; exact ⟨q0, q1, qP, va_K.moved (u := U) (U := U.calling g mk a) (Vm.Alike.refl U.vm) qK, qD, qN.same rfl⟩, va_recv hK hP (ci := 5) (q0 := k_56) rfl (Wd_ob kg_59 sg_59 (by decide)), fun U hU hW => ⟨rfl, by rw [hU], by rw [hU]; exact hP, va_K.moved hW.alike hK, hD.weaken (fun _ _ _ _ => trivial), hN.warm hW⟩⟩ rfl rfl hl.1 rfl (lv_room (Nat.le_of_ble_eq_true rfl)) dX6_findRound_42 ⟨Nat.le_of_ble_eq_true rfl, Nat.le_of_ble_eq_true rfl⟩) hS (fun q _ h => hFc q h) hFc (fun rr u t H_60 locs ht hvm hw hB hz1 hk1 hS2 => ?_)
      rw [hw]
      clear hw
      obtain ⟨hP1, -, hD1⟩ := hB
      rw [ht] at hP1
      replace hD := hD1.weaken (fun _ _ _ h => hFc _ h)
      replace hP := hP1
      replace hS := hS2
      clear hP1 hD1 hS2 hFc hfc hz1 hk1 hvm ht
      refine lv_lstore (lv' := [(4, .long r_58), (3, .int p_47), (2, .int p_5), (1, .int v_4), (0, .ref (a h0))]) hx hb dX6_findRound_45 hl (by decide) rfl (fun ls hl2 => ?_)
      replace hl := hl2
      clear hl2
      refine lv_lload hx hb dX6_findRound_47 (lv_at hl 0 rfl) ?_
      refine lv_l2i (v := (r_58 : Int64).toInt32) hx hb dX6_findRound_49 rfl ?_
      refine lv_sipush (v := 255) hx hb dX6_findRound_50 (by decide) ?_
      refine lv_iand hx hb dX6_findRound_53 ?_
      refine lv_topi (fun v_61 ev_61 => ?_)
      replace hf := lt_at ev_61 hf
      clear ev_61
      refine lv_istore (lv' := [(6, .int v_61), (4, .long r_58), (3, .int p_47), (2, .int p_5), (1, .int v_4), (0, .ref (a h0))]) hx hb dX6_findRound_54 hl (by decide) rfl (fun ls hl2 => ?_)
      replace hl := hl2
      clear hl2
      refine lv_lload hx hb dX6_findRound_56 (lv_at hl 1 rfl) ?_
      obtain ⟨z_62, r_63, hfc, hf⟩ := cal_some hf
      have hFc := de_free hD hS hA
      refine va_calli (va_runS (As := [.long r_58]) (rest := []) ⟨hx, hb, hml, hown, hts⟩ (de_X5_endsInStructure l dC dI cy a sh n H_60.size F z_57 r_58 hfc) (va_cwS 1 hts gX6_findRound_X5_endsInStructure rfl rfl rfl (by decide +kernel) ⟨Nat.le_of_ble_eq_true rfl, Nat.le_of_ble_eq_true rfl⟩) ⟨fun a U g mk q => by obtain ⟨q0, q1, qP, qK, qD, qN⟩ := q; exact ⟨q0, q1, qP, va_K.moved (u := U) (U := U.calling g mk a) (Vm.Alike.refl U.vm) qK, qD, qN.same rfl⟩, fun U hU hW => ⟨rfl, by rw [hU], by rw [hU]; exact hP, va_K.moved hW.alike hK, hD.weaken (fun _ _ _ _ => trivial), hN.warm hW⟩⟩ rfl rfl hl.1 rfl (lv_room (Nat.le_of_ble_eq_true rfl)) dX6_findRound_58 ⟨Nat.le_of_ble_eq_true rfl, Nat.le_of_ble_eq_true rfl⟩) hS (fun q _ h => hFc q h) hFc (fun rr u t H_64 locs ht hvm hw hB hz1 hk1 hS2 => ?_)
      rw [hw]
      clear hw
      obtain ⟨hP1, -, hD1⟩ := hB
      rw [ht] at hP1
      replace hD := hD1.weaken (fun _ _ _ h => hFc _ h)
      replace hP := hP1
      replace hS := hS2
      clear hP1 hD1 hS2 hFc hfc hz1 hk1 hvm ht
      refine de_cut (h := 83) (fun (x : St) => []) (fun x ls H locs => lv_has ls 7 [(3, .int p_47), (2, .int p_5), (1, .int v_4), (0, .ref (a h0))] ∧ va_P (dC, dI) vwCl (Wd cy a sh n x) H ∧ va_D A (Wd cy a sh n x) ∧ va_S A s.heap H locs) (fun x => fn_X6_findRound_B83 F sh n p_47 (fun z9 q3 => fn_X6_findRound_L24 F sh n h0 p_5 v_4 (fun z9 q2 => fn_X6_findRound_L10 F sh n v_4 h0 f_7 z9 q2) f_49 z9 q3) x) (z8, r8) ?_ (fun B83 => ?_)
      · intro x ls H locs hI hf
        obtain ⟨z_65, ez⟩ : ∃ w, w = x := ⟨_, rfl⟩
        subst ez
        obtain ⟨hl2, hP2, hD2, hS2⟩ := hI
        replace hl : lv_has ls 7 [(3, .int p_47), (2, .int p_5), (1, .int v_4), (0, .ref (a h0))] := hl2
        replace hP := hP2
        replace hD := hD2
        replace hS := hS2
        clear hl2 hP2 hD2 hS2
        replace hf := fn_X6_findRound_B83_s hf
        refine W.eq (g2 := F0 m 83 ls []) rfl ?_
        refine lv_iinc (v := (p_47 + 1)) (lv' := [(3, .int (p_47 + 1)), (2, .int p_5), (1, .int v_4), (0, .ref (a h0))]) hx hb dX6_findRound_83 hl (k := 0) rfl rfl (by decide) rfl (fun ls hl2 => ?_)
        replace hl := hl2
        clear hl2
        refine lv_goto (tgt := 24) hx hb dX6_findRound_86 (by decide) ?_
        exact ih24 (z_65, (p_47 + 1)) ls H locs ⟨lv_sub hl [0, 1, 2, 3] rfl, hP, hD, hS⟩ hf
      refine lv_if_eq (tgt := 83) hx hb dX6_findRound_61 (by decide) (fun c_66 => ?_) (fun c_66 => ?_)
      · skip
        rw [if_pos c_66] at hf
        exact B83 (z_62) ls H_64 locs ⟨lv_sub hl [2, 3, 4, 5] rfl, hP, hD, hS⟩ hf
      · skip
        rw [if_neg c_66] at hf
        refine lv_iload hx hb dX6_findRound_64 (lv_at hl 0 rfl) ?_
        refine lv_iload_n hx hb dX6_findRound_66 rfl (lv_at hl 4 rfl) ?_
        refine lv_icmp_ge (tgt := 83) hx hb dX6_findRound_67 (by decide) (fun c_67 => ?_) (fun c_67 => ?_)
        · skip
          rw [if_pos c_67] at hf
          exact B83 (z_62) ls H_64 locs ⟨lv_sub hl [2, 3, 4, 5] rfl, hP, hD, hS⟩ hf
        · skip
          rw [if_neg c_67] at hf
          refine lv_aload_n hx hb dX6_findRound_70 rfl (lv_at hl 5 rfl) ?_
          obtain ⟨k_68, ek_68, hf⟩ := lnk_some hf
          refine va_get (D := (dC, dI)) (ci := 6) (v := .ref (a k_68)) (C := RX6) (T := TX6) (N := 9) hx hb hts iwd_X6_findRound_X6 hown hK hP h0 (Wd_ob kg_1 sg_1 (by decide)) rfl 8 (by decide) (hts _ md_X6_findRound_3) (fun _ h9 => h9) (fl_q rfl ek_68) dX6_findRound_71 ?_
          refine lv_iload_n hx hb dX6_findRound_74 rfl (lv_at hl 3 rfl) ?_
          refine lv_dup2_11 hx hb dX6_findRound_75 rfl rfl ?_
          obtain ⟨g_69, hf⟩ := grd_some hf
          obtain ⟨kg_69, sg_69, ig_69⟩ := okA_at g_69
          refine va_iald hx hb hK hP k_68 1 (Wd_ai kg_69 sg_69) rfl ig_69 dX6_findRound_76 ?_
          refine lv_iconst (v := 1) hx hb dX6_findRound_77 (by decide) ?_
          refine lv_iload hx hb dX6_findRound_78 (lv_at hl 0 rfl) ?_
          refine lv_ishl hx hb dX6_findRound_80 ?_
          refine lv_ior hx hb dX6_findRound_81 ?_
          obtain ⟨g_70, hf⟩ := grd_some hf
          obtain ⟨kg_70, sg_70, ig_70⟩ := okA_at g_70
          refine va_iast hx hb hK hP hD hS k_68 1 (Wd_ai kg_70 sg_70) rfl ig_70 dX6_findRound_82 (fun H_71 locs hP2 hD2 hS2 => ?_)
          rw [Wd_ti sg_70] at hP2 hD2
          obtain ⟨z_72, ez_72⟩ : ∃ w, w = si z_62 k_68 p_5.toNatClampNeg ((z_62.1 k_68 p_5.toNatClampNeg) ||| (1 <<< (v_61 &&& 31))) := ⟨_, rfl⟩
          rw [← ez_72] at hP2 hD2
          replace hf := lt_at ez_72 hf
          clear ez_72
          replace hP := hP2
          replace hD := hD2
          replace hS := hS2
          clear hP2 hD2 hS2
          exact B83 (z_72) ls H_71 locs ⟨lv_sub hl [2, 3, 4, 5] rfl, hP, hD, hS⟩ hf

theorem md_X7_findProgram_1 : (.fieldLink RX7 55 "ResourceLedger$State" "moduleCount" "I" : Cond) ∈ wsX7_findProgram := List.mem_of_getElem? (i := 1) rfl
theorem iwd_X7_findProgram_X7 : ∀ w ∈ wsX70, w ∈ wsX7_findProgram := fun _ h => List.mem_cons_of_mem _ (List.mem_append_left _ (List.mem_append_right _ h))
theorem md_X7_findProgram_2 : (.fieldLink RX7 23 "ResourceLedger$State" "programs" "[LResourceLedger$Program;" : Cond) ∈ wsX7_findProgram := List.mem_of_getElem? (i := 2) rfl
theorem md_X7_findProgram_3 : (.fieldLink RX7 86 "ResourceLedger$Program" "number" "I" : Cond) ∈ wsX7_findProgram := List.mem_of_getElem? (i := 3) rfl
theorem iwd_X7_findProgram_X5 : ∀ w ∈ wsX50, w ∈ wsX7_findProgram := fun _ h => List.mem_cons_of_mem _ (List.mem_append_right _ h)
def fn_X7_findProgram_L2 (F : Nat) (sh : Nat → Nat × Nat) (n : Nat) (h0 : Nat) (x0 : Int32) : Nat → St → Int32 → Option (St × Option Nat)
  | 0, _, _ => none
  | f_3 + 1, z_2, p_1 => grd (okO sh n h0 7) (if ((z_2.1 h0 5) : Int32) < p_1 then some (z_2, none) else lnk (z_2.2.2 h0 4) (fun k_6 => grd (okA sh n k_6 104 p_1) (lnk (z_2.2.2 k_6 p_1.toNatClampNeg) (fun k_8 => grd (okO sh n k_8 5) (if ((z_2.1 k_8 2) : Int32) = x0 then lnk (z_2.2.2 h0 4) (fun k_11 => grd (okA sh n k_11 104 p_1) (lnk (z_2.2.2 k_11 p_1.toNatClampNeg) (fun k_13 => some (z_2, (some k_13))))) else fn_X7_findProgram_L2 F sh n h0 x0 f_3 z_2 (p_1 + 1))))))
theorem fn_X7_findProgram_L2_s {F : Nat} {sh : Nat → Nat × Nat} {n : Nat} {h0 : Nat} {x0 : Int32} {f_3 : Nat} {z_2 : St} {p_1 : Int32} {y : St × Option Nat} (h : fn_X7_findProgram_L2 F sh n h0 x0 (f_3 + 1) z_2 p_1 = some y) : (grd (okO sh n h0 7) (if ((z_2.1 h0 5) : Int32) < p_1 then some (z_2, none) else lnk (z_2.2.2 h0 4) (fun k_6 => grd (okA sh n k_6 104 p_1) (lnk (z_2.2.2 k_6 p_1.toNatClampNeg) (fun k_8 => grd (okO sh n k_8 5) (if ((z_2.1 k_8 2) : Int32) = x0 then lnk (z_2.2.2 h0 4) (fun k_11 => grd (okA sh n k_11 104 p_1) (lnk (z_2.2.2 k_11 p_1.toNatClampNeg) (fun k_13 => some (z_2, (some k_13))))) else fn_X7_findProgram_L2 F sh n h0 x0 f_3 z_2 (p_1 + 1))))))) = some y := h
def fn_X7_findProgram (F : Nat) (sh : Nat → Nat × Nat) (n : Nat) (z : St) (h0 : Nat) (x0 : Int32) : Option (St × Option Nat) := fn_X7_findProgram_L2 F sh n h0 x0 F z 0
set_option maxHeartbeats 4000000 in
set_option maxRecDepth 100000 in
theorem de_X7_findProgram (l : Launch) (dC : Nat → ClassId) (dI : Nat → Nat → Nat) (cy : Nat → ClassId) (a : Nat → Nat) (sh : Nat → Nat × Nat) (n sz : Nat) (F : Nat) (z : St) (h0 : Nat) (x0 : Int32) {z8 : St} {r8 : Option Nat} (hf : fn_X7_findProgram F sh n z h0 x0 = some (z8, r8)) : Met l yX7_findProgram wsX7_findProgram ({ frames := 0, cells := 0, slots := 0, locals := 0 }) (va_Pc [.ref (a h0), .int x0] (fun U => U.heap.size = sz ∧ va_P (dC, dI) vwCl (Wd cy a sh n z) U.heap ∧ va_K (dC, dI) vwCl (TYS cy) U ∧ va_D (fun _ => True) (Wd cy a sh n z) ∧ NK U)) (va_Qq (fun (r9 : Option Nat) (u : Unit) => r9 = r8.map a) (fun u t => va_P (dC, dI) vwCl (Wd cy a sh n z8) t.heap ∧ va_K (dC, dI) vwCl (TYS cy) t ∧ va_D (va_A (Wd cy a sh n z) sz) (Wd cy a sh n z8)) (va_A (Wd cy a sh n z) sz)) 0 0 (va_A (Wd cy a sh n z) sz) := by
  refine Met.ofW (cc := cX7_findProgram) (maxL := 3) (ret := (some (.object "ResourceLedger$Program"))) (by decide) rfl ?_
  intro p e s m args below meth c s₁ B hml hv
  obtain ⟨rfl, hsz, hP, hK, hD0, hN⟩ := hv
  have hx := B.exec
  have hb := B.bytes
  have hr := B.returns
  have hts := atoms_spec (ws := wsX7_findProgram) B.pre
  have hown : s.vm.findClass RX7 = some m.cls := findClass_of_methodNamed B.named
  have hlocks := B.notSynchronized
  subst hsz
  have hD := hD0.self (sz := s.heap.size)
  clear hD0
  generalize hAe : va_A (Wd cy a sh n z) s.heap.size = A at hD ⊢
  have hA : ∀ q : Nat, s.heap.size ≤ q → A q := fun q h => by rw [← hAe]; exact Or.inr h
  clear hAe
  have hS : va_S A s.heap s.heap [] := va_S.rf
  have hl := lv_entry ([.ref (a h0), .int x0]) (n := 3) (Nat.le_of_ble_eq_true rfl)
  rw [lg_entry_eq]
  generalize (lg_sl ([.ref (a h0), .int x0]) ++ List.replicate (3 - (lg_sl ([.ref (a h0), .int x0])).length) Slot.unset).toArray = ls at hl ⊢
  replace hl : lv_has ls 3 [(0, .ref (a h0)), (1, .int x0)] := hl
  unfold fn_X7_findProgram at hf
  refine de_start hS hP (fun H locs hS hP => ?_)
  refine lv_iconst (v := 0) hx hb dX7_findProgram_0 (by decide) ?_
  refine lv_istore_n (lv' := [(2, .int 0), (0, .ref (a h0)), (1, .int x0)]) hx hb dX7_findProgram_1 rfl hl (by decide) rfl (fun ls hl2 => ?_)
  replace hl := hl2
  clear hl2
  have hl0 : lv_has ls 3 [(2, .int 0), (0, .ref (a h0)), (1, .int x0)] := lv_sub hl [0, 1, 2] rfl
  refine de_loop (h := 2) (fun (x : St × Int32) ls H locs => lv_has ls 3 [(2, .int x.2), (0, .ref (a h0)), (1, .int x0)] ∧ va_P (dC, dI) vwCl (Wd cy a sh n x.1) H ∧ va_D A (Wd cy a sh n x.1) ∧ va_S A s.heap H locs) (fun f x => fn_X7_findProgram_L2 F sh n h0 x0 f x.1 x.2) (z8, r8) ?_ (fun _ => rfl) F (z, 0) ls H locs ⟨hl0, hP, hD, hS⟩ hf
  intro f_3 x ls H locs ih2 hI hf
  obtain ⟨z_2, p_1⟩ := x
  obtain ⟨hl2, hP2, hD2, hS2⟩ := hI
  replace hl : lv_has ls 3 [(2, .int p_1), (0, .ref (a h0)), (1, .int x0)] := hl2
  replace hP := hP2
  replace hD := hD2
  replace hS := hS2
  clear hl2 hP2 hD2 hS2 hl0
  replace hf := fn_X7_findProgram_L2_s hf
  refine lv_iload_n hx hb dX7_findProgram_2 rfl (lv_at hl 0 rfl) ?_
  refine lv_aload_n hx hb dX7_findProgram_3 rfl (lv_at hl 1 rfl) ?_
  obtain ⟨g_4, hf⟩ := grd_some hf
  obtain ⟨kg_4, sg_4⟩ := okO_at g_4
  refine va_get (D := (dC, dI)) (ci := 7) (v := .int (z_2.1 h0 5)) (C := RX7) (T := TX7) (N := 16) hx hb hts iwd_X7_findProgram_X7 hown hK hP h0 (Wd_ob kg_4 sg_4 (by decide)) rfl 5 (by decide) (hts _ md_X7_findProgram_1) (fun _ h9 => h9) (fl_at (t := 0) rfl) dX7_findProgram_4 ?_
  refine lv_icmp_gt (tgt := 36) hx hb dX7_findProgram_7 (by decide) (fun c_5 => ?_) (fun c_5 => ?_)
  · skip
    rw [if_pos c_5] at hf
    refine lv_null hx hb dX7_findProgram_36 ?_
    obtain ⟨h8, h9⟩ := ret_some hf
    rw [h8, h9]
    exact W.aret (v := .null) hx hb hr (Or.inl ⟨_, rfl⟩) (Or.inl rfl) (fun t ht hW => ⟨⟨none, (), rfl, rfl, by rw [ht]; exact hP, va_K.moved hW.alike hK, hD⟩, hS.F ht⟩) hS.2.2 dX7_findProgram_37
  · skip
    rw [if_neg c_5] at hf
    refine lv_aload_n hx hb dX7_findProgram_10 rfl (lv_at hl 1 rfl) ?_
    obtain ⟨k_6, ek_6, hf⟩ := lnk_some hf
    refine va_get (D := (dC, dI)) (ci := 7) (v := .ref (a k_6)) (C := RX7) (T := TX7) (N := 16) hx hb hts iwd_X7_findProgram_X7 hown hK hP h0 (Wd_ob kg_4 sg_4 (by decide)) rfl 4 (by decide) (hts _ md_X7_findProgram_2) (fun _ h9 => h9) (fl_q rfl ek_6) dX7_findProgram_11 ?_
    refine lv_iload_n hx hb dX7_findProgram_14 rfl (lv_at hl 0 rfl) ?_
    obtain ⟨g_7, hf⟩ := grd_some hf
    obtain ⟨kg_7, sg_7, ig_7⟩ := okA_at g_7
    obtain ⟨k_8, ek_8, hf⟩ := lnk_some hf
    refine va_aldq (C := RX5) hx hb hK hP k_6 4 (Wd_aq kg_7 sg_7 (by decide)) rfl ig_7 dX7_findProgram_15 ?_
    refine W.eq (g2 := F0 m 16 ls [.ref (a k_8)]) (by rw [ek_8]; rfl) ?_
    obtain ⟨g_9, hf⟩ := grd_some hf
    obtain ⟨kg_9, sg_9⟩ := okO_at g_9
    refine va_get (D := (dC, dI)) (ci := 5) (v := .int (z_2.1 k_8 2)) (C := RX5) (T := TX5) (N := 15) hx hb hts iwd_X7_findProgram_X5 hown hK hP k_8 (Wd_ob kg_9 sg_9 (by decide)) rfl 2 (by decide) (hts _ md_X7_findProgram_3) (fun _ h9 => h9) (fl_at (t := 0) rfl) dX7_findProgram_16 ?_
    refine lv_iload_n hx hb dX7_findProgram_19 rfl (lv_at hl 2 rfl) ?_
    refine lv_icmp_ne (tgt := 30) hx hb dX7_findProgram_20 (by decide) (fun c_10 => ?_) (fun c_10 => ?_)
    · skip
      rw [if_neg c_10] at hf
      refine lv_iinc (v := (p_1 + 1)) (lv' := [(2, .int (p_1 + 1)), (0, .ref (a h0)), (1, .int x0)]) hx hb dX7_findProgram_30 hl (k := 0) rfl rfl (by decide) rfl (fun ls hl2 => ?_)
      replace hl := hl2
      clear hl2
      refine lv_goto (tgt := 2) hx hb dX7_findProgram_33 (by decide) ?_
      exact ih2 (z_2, (p_1 + 1)) ls H locs ⟨lv_sub hl [0, 1, 2] rfl, hP, hD, hS⟩ hf
    · skip
      rw [if_pos c_10] at hf
      refine lv_aload_n hx hb dX7_findProgram_23 rfl (lv_at hl 1 rfl) ?_
      obtain ⟨k_11, ek_11, hf⟩ := lnk_some hf
      refine va_get (D := (dC, dI)) (ci := 7) (v := .ref (a k_11)) (C := RX7) (T := TX7) (N := 16) hx hb hts iwd_X7_findProgram_X7 hown hK hP h0 (Wd_ob kg_4 sg_4 (by decide)) rfl 4 (by decide) (hts _ md_X7_findProgram_2) (fun _ h9 => h9) (fl_q rfl ek_11) dX7_findProgram_24 ?_
      refine lv_iload_n hx hb dX7_findProgram_27 rfl (lv_at hl 0 rfl) ?_
      obtain ⟨g_12, hf⟩ := grd_some hf
      obtain ⟨kg_12, sg_12, ig_12⟩ := okA_at g_12
      obtain ⟨k_13, ek_13, hf⟩ := lnk_some hf
      refine va_aldq (C := RX5) hx hb hK hP k_11 4 (Wd_aq kg_12 sg_12 (by decide)) rfl ig_12 dX7_findProgram_28 ?_
      refine W.eq (g2 := F0 m 29 ls [.ref (a k_13)]) (by rw [ek_13]; rfl) ?_
      obtain ⟨h8, h9⟩ := ret_some hf
      rw [h8, h9]
      exact W.aret (v := .ref (a k_13)) hx hb hr (Or.inl ⟨_, rfl⟩) (Or.inr ⟨_, rfl⟩) (fun t ht hW => ⟨⟨(some (a k_13)), (), rfl, rfl, by rw [ht]; exact hP, va_K.moved hW.alike hK, hD⟩, hS.F ht⟩) hS.2.2 dX7_findProgram_29

theorem md_X5_measure_1 : (.fieldLink RX5 52 "ResourceLedger$Program" "allStructures" "I" : Cond) ∈ wsX5_measure := List.mem_of_getElem? (i := 1) rfl
theorem iwd_X5_measure_X5 : ∀ w ∈ wsX50, w ∈ wsX5_measure := fun _ h => List.mem_cons_of_mem _ (List.mem_append_left _ (List.mem_append_right _ h))
theorem md_X5_measure_2 : (.fieldLink RX5 102 "ResourceLedger$Program" "ownStructures" "I" : Cond) ∈ wsX5_measure := List.mem_of_getElem? (i := 2) rfl
theorem md_X5_measure_3 : (.methodLink RX5 138 Lib.Math.max.name : Cond) ∈ wsX5_measure := List.mem_of_getElem? (i := 3) rfl
theorem md_X5_measure_4 : (.static Lib.Math.max.name : Cond) ∈ wsX5_measure := List.mem_of_getElem? (i := 4) rfl
theorem md_X5_measure_5 : (.initialized "java/lang/Math" : Cond) ∈ wsX5_measure := List.mem_of_getElem? (i := 5) rfl
theorem md_X5_measure_6 : (.code Lib.Math.max.name Lib.Math.max.code 2 (some .int) : Cond) ∈ wsX5_measure := List.mem_of_getElem? (i := 6) rfl
def fn_X5_measure_L92 (F : Nat) (sh : Nat → Nat × Nat) (n : Nat) (h0 : Nat) (p_10 : Int32) (ko78 : St → Int32 → Option (St × Unit)) : Nat → St → Int32 → Int32 → Option (St × Unit)
  | 0, _, _, _ => none
  | f_17 + 1, z_16, p_14, p_15 => cal (fn_X5_fieldCount F sh n z_16 h0 p_10) (fun z_18 r_19 => if (r_19 : Int32) ≤ p_15 then cal (fn_X5_setStructure F sh n z_18 h0 p_10 6 (p_14 + 1)) (fun z_22 _ => ko78 z_22 (p_10 + 1)) else cal (fn_X5_fieldType F sh n z_18 h0 p_10 p_15) (fun z_24 r_25 => cal (fn_X5_depthOf F sh n z_24 h0 r_25) (fun z_27 r_28 => lt_ (if p_14 < r_28 then r_28 else p_14) (fun v_30 => fn_X5_measure_L92 F sh n h0 p_10 ko78 f_17 z_27 v_30 (p_15 + 1)))))
theorem fn_X5_measure_L92_s {F : Nat} {sh : Nat → Nat × Nat} {n : Nat} {h0 : Nat} {p_10 : Int32} {ko78 : St → Int32 → Option (St × Unit)} {f_17 : Nat} {z_16 : St} {p_14 : Int32} {p_15 : Int32} {y : St × Unit} (h : fn_X5_measure_L92 F sh n h0 p_10 ko78 (f_17 + 1) z_16 p_14 p_15 = some y) : (cal (fn_X5_fieldCount F sh n z_16 h0 p_10) (fun z_18 r_19 => if (r_19 : Int32) ≤ p_15 then cal (fn_X5_setStructure F sh n z_18 h0 p_10 6 (p_14 + 1)) (fun z_22 _ => ko78 z_22 (p_10 + 1)) else cal (fn_X5_fieldType F sh n z_18 h0 p_10 p_15) (fun z_24 r_25 => cal (fn_X5_depthOf F sh n z_24 h0 r_25) (fun z_27 r_28 => lt_ (if p_14 < r_28 then r_28 else p_14) (fun v_30 => fn_X5_measure_L92 F sh n h0 p_10 ko78 f_17 z_27 v_30 (p_15 + 1)))))) = some y := h
def fn_X5_measure_L78 (F : Nat) (sh : Nat → Nat × Nat) (n : Nat) (h0 : Nat) (p_6 : Int32) (ko68 : St → Int32 → Option (St × Unit)) : Nat → St → Int32 → Option (St × Unit)
  | 0, _, _ => none
  | f_12 + 1, z_11, p_10 => if ((z_11.1 h0 8) : Int32) ≤ p_10 then ko68 z_11 (p_6 + 1) else fn_X5_measure_L92 F sh n h0 p_10 (fun z9 q3 => fn_X5_measure_L78 F sh n h0 p_6 ko68 f_12 z9 q3) F z_11 0 0
theorem fn_X5_measure_L78_s {F : Nat} {sh : Nat → Nat × Nat} {n : Nat} {h0 : Nat} {p_6 : Int32} {ko68 : St → Int32 → Option (St × Unit)} {f_12 : Nat} {z_11 : St} {p_10 : Int32} {y : St × Unit} (h : fn_X5_measure_L78 F sh n h0 p_6 ko68 (f_12 + 1) z_11 p_10 = some y) : (if ((z_11.1 h0 8) : Int32) ≤ p_10 then ko68 z_11 (p_6 + 1) else fn_X5_measure_L92 F sh n h0 p_10 (fun z9 q3 => fn_X5_measure_L78 F sh n h0 p_6 ko68 f_12 z9 q3) F z_11 0 0) = some y := h
def fn_X5_measure_L68 (F : Nat) (sh : Nat → Nat × Nat) (n : Nat) (h0 : Nat) : Nat → St → Int32 → Option (St × Unit)
  | 0, _, _ => none
  | f_8 + 1, z_7, p_6 => if ((z_7.1 h0 8) : Int32) ≤ p_6 then some (z_7, ()) else fn_X5_measure_L78 F sh n h0 p_6 (fun z9 q2 => fn_X5_measure_L68 F sh n h0 f_8 z9 q2) F z_7 0
theorem fn_X5_measure_L68_s {F : Nat} {sh : Nat → Nat × Nat} {n : Nat} {h0 : Nat} {f_8 : Nat} {z_7 : St} {p_6 : Int32} {y : St × Unit} (h : fn_X5_measure_L68 F sh n h0 (f_8 + 1) z_7 p_6 = some y) : (if ((z_7.1 h0 8) : Int32) ≤ p_6 then some (z_7, ()) else fn_X5_measure_L78 F sh n h0 p_6 (fun z9 q2 => fn_X5_measure_L68 F sh n h0 f_8 z9 q2) F z_7 0) = some y := h
def fn_X5_measure_B57 (F : Nat) (sh : Nat → Nat × Nat) (n : Nat) (h0 : Nat) (p_1 : Int32) (ko2 : St → Int32 → Option (St × Unit)) (z_41 : St) (p_40 : Int32) : Option (St × Unit) := cal (fn_X5_setStructure F sh n z_41 h0 p_1 6 p_40) (fun z_42 _ => ko2 z_42 (p_1 + 1))
theorem fn_X5_measure_B57_s {F : Nat} {sh : Nat → Nat × Nat} {n : Nat} {h0 : Nat} {p_1 : Int32} {ko2 : St → Int32 → Option (St × Unit)} {z_41 : St} {p_40 : Int32} {y : St × Unit} (h : fn_X5_measure_B57 F sh n h0 p_1 ko2 z_41 p_40 = some y) : (cal (fn_X5_setStructure F sh n z_41 h0 p_1 6 p_40) (fun z_42 _ => ko2 z_42 (p_1 + 1))) = some y := h
def fn_X5_measure_B57_2 (F : Nat) (sh : Nat → Nat × Nat) (n : Nat) (h0 : Nat) (p_1 : Int32) (ko2 : St → Int32 → Option (St × Unit)) (z_45 : St) (p_44 : Int32) : Option (St × Unit) := cal (fn_X5_setStructure F sh n z_45 h0 p_1 6 p_44) (fun z_46 _ => ko2 z_46 (p_1 + 1))
theorem fn_X5_measure_B57_2_s {F : Nat} {sh : Nat → Nat × Nat} {n : Nat} {h0 : Nat} {p_1 : Int32} {ko2 : St → Int32 → Option (St × Unit)} {z_45 : St} {p_44 : Int32} {y : St × Unit} (h : fn_X5_measure_B57_2 F sh n h0 p_1 ko2 z_45 p_44 = some y) : (cal (fn_X5_setStructure F sh n z_45 h0 p_1 6 p_44) (fun z_46 _ => ko2 z_46 (p_1 + 1))) = some y := h
def fn_X5_measure_B57_3 (F : Nat) (sh : Nat → Nat × Nat) (n : Nat) (h0 : Nat) (p_1 : Int32) (ko2 : St → Int32 → Option (St × Unit)) (z_56 : St) (p_55 : Int32) : Option (St × Unit) := cal (fn_X5_setStructure F sh n z_56 h0 p_1 6 p_55) (fun z_57 _ => ko2 z_57 (p_1 + 1))
theorem fn_X5_measure_B57_3_s {F : Nat} {sh : Nat → Nat × Nat} {n : Nat} {h0 : Nat} {p_1 : Int32} {ko2 : St → Int32 → Option (St × Unit)} {z_56 : St} {p_55 : Int32} {y : St × Unit} (h : fn_X5_measure_B57_3 F sh n h0 p_1 ko2 z_56 p_55 = some y) : (cal (fn_X5_setStructure F sh n z_56 h0 p_1 6 p_55) (fun z_57 _ => ko2 z_57 (p_1 + 1))) = some y := h
def fn_X5_measure_L2 (F : Nat) (sh : Nat → Nat × Nat) (n : Nat) (h0 : Nat) (x0 : Nat) : Nat → St → Int32 → Option (St × Unit)
  | 0, _, _ => none
  | f_3 + 1, z_2, p_1 => grd (okO sh n h0 5) (if ((z_2.1 h0 9) : Int32) ≤ p_1 then fn_X5_measure_L68 F sh n h0 F z_2 0 else if ((z_2.1 h0 8) : Int32) ≤ p_1 then cal (fn_X5_structureColumn F sh n z_2 h0 p_1 4) (fun z_32 r_33 => grd (okO sh n x0 7) (cal (fn_X7_findProgram F sh n z_32 x0 r_33) (fun z_35 r_36 => nul r_36 (fn_X5_measure_B57 F sh n h0 p_1 (fun z9 q2 => fn_X5_measure_L2 F sh n h0 x0 f_3 z9 q2) z_35 0) (fun k_39 => cal (fn_X5_structureColumn F sh n z_35 h0 p_1 5) (fun z_48 r_49 => grd (okO sh n k_39 5) (cal (fn_X5_structureColumn F sh n z_48 k_39 r_49 6) (fun z_51 r_52 => fn_X5_measure_B57_2 F sh n h0 p_1 (fun z9 q2 => fn_X5_measure_L2 F sh n h0 x0 f_3 z9 q2) z_51 r_52))))))) else fn_X5_measure_B57_3 F sh n h0 p_1 (fun z9 q2 => fn_X5_measure_L2 F sh n h0 x0 f_3 z9 q2) z_2 0)
theorem fn_X5_measure_L2_s {F : Nat} {sh : Nat → Nat × Nat} {n : Nat} {h0 : Nat} {x0 : Nat} {f_3 : Nat} {z_2 : St} {p_1 : Int32} {y : St × Unit} (h : fn_X5_measure_L2 F sh n h0 x0 (f_3 + 1) z_2 p_1 = some y) : (grd (okO sh n h0 5) (if ((z_2.1 h0 9) : Int32) ≤ p_1 then fn_X5_measure_L68 F sh n h0 F z_2 0 else if ((z_2.1 h0 8) : Int32) ≤ p_1 then cal (fn_X5_structureColumn F sh n z_2 h0 p_1 4) (fun z_32 r_33 => grd (okO sh n x0 7) (cal (fn_X7_findProgram F sh n z_32 x0 r_33) (fun z_35 r_36 => nul r_36 (fn_X5_measure_B57 F sh n h0 p_1 (fun z9 q2 => fn_X5_measure_L2 F sh n h0 x0 f_3 z9 q2) z_35 0) (fun k_39 => cal (fn_X5_structureColumn F sh n z_35 h0 p_1 5) (fun z_48 r_49 => grd (okO sh n k_39 5) (cal (fn_X5_structureColumn F sh n z_48 k_39 r_49 6) (fun z_51 r_52 => fn_X5_measure_B57_2 F sh n h0 p_1 (fun z9 q2 => fn_X5_measure_L2 F sh n h0 x0 f_3 z9 q2) z_51 r_52))))))) else fn_X5_measure_B57_3 F sh n h0 p_1 (fun z9 q2 => fn_X5_measure_L2 F sh n h0 x0 f_3 z9 q2) z_2 0)) = some y := h
def fn_X5_measure (F : Nat) (sh : Nat → Nat × Nat) (n : Nat) (z : St) (h0 : Nat) (x0 : Nat) : Option (St × Unit) := fn_X5_measure_L2 F sh n h0 x0 F z 0
set_option maxHeartbeats 4000000 in
set_option maxRecDepth 100000 in
theorem de_X5_measure (l : Launch) (dC : Nat → ClassId) (dI : Nat → Nat → Nat) (cy : Nat → ClassId) (a : Nat → Nat) (sh : Nat → Nat × Nat) (n sz : Nat) (F : Nat) (z : St) (h0 : Nat) (x0 : Nat) {z8 : St} {r8 : Unit} (hf : fn_X5_measure F sh n z h0 x0 = some (z8, r8)) : Met l yX5_measure wsX5_measure ({ frames := 2, cells := 0, slots := 0, locals := 46 }) (va_Pc [.ref (a h0), .ref (a x0)] (fun U => U.heap.size = sz ∧ va_P (dC, dI) vwCl (Wd cy a sh n z) U.heap ∧ va_K (dC, dI) vwCl (TYS cy) U ∧ va_D (fun _ => True) (Wd cy a sh n z) ∧ NK U)) (va_Qv (fun u : Unit => True) (fun u t => va_P (dC, dI) vwCl (Wd cy a sh n z8) t.heap ∧ va_K (dC, dI) vwCl (TYS cy) t ∧ va_D (va_A (Wd cy a sh n z) sz) (Wd cy a sh n z8)) (va_A (Wd cy a sh n z) sz)) 0 0 (va_A (Wd cy a sh n z) sz) := by
  refine Met.ofW (cc := cX5_measure) (maxL := 6) (ret := none) (by decide) rfl ?_
  intro p e s m args below meth c s₁ B hml hv
  obtain ⟨rfl, hsz, hP, hK, hD0, hN⟩ := hv
  have hx := B.exec
  have hb := B.bytes
  have hr := B.returns
  have hts := atoms_spec (ws := wsX5_measure) B.pre
  have hown : s.vm.findClass RX5 = some m.cls := findClass_of_methodNamed B.named
  have hlocks := B.notSynchronized
  subst hsz
  have hD := hD0.self (sz := s.heap.size)
  clear hD0
  generalize hAe : va_A (Wd cy a sh n z) s.heap.size = A at hD ⊢
  have hA : ∀ q : Nat, s.heap.size ≤ q → A q := fun q h => by rw [← hAe]; exact Or.inr h
  clear hAe
  have hS : va_S A s.heap s.heap [] := va_S.rf
  have hl := lv_entry ([.ref (a h0), .ref (a x0)]) (n := 6) (Nat.le_of_ble_eq_true rfl)
  rw [lg_entry_eq]
  generalize (lg_sl ([.ref (a h0), .ref (a x0)]) ++ List.replicate (6 - (lg_sl ([.ref (a h0), .ref (a x0)])).length) Slot.unset).toArray = ls at hl ⊢
  replace hl : lv_has ls 6 [(0, .ref (a h0)), (1, .ref (a x0))] := hl
  unfold fn_X5_measure at hf
  refine de_start hS hP (fun H locs hS hP => ?_)
  refine lv_iconst (v := 0) hx hb dX5_measure_0 (by decide) ?_
  refine lv_istore_n (lv' := [(2, .int 0), (0, .ref (a h0)), (1, .ref (a x0))]) hx hb dX5_measure_1 rfl hl (by decide) rfl (fun ls hl2 => ?_)
  replace hl := hl2
  clear hl2
  have hl0 : lv_has ls 6 [(2, .int 0), (0, .ref (a h0)), (1, .ref (a x0))] := lv_sub hl [0, 1, 2] rfl
  refine de_loop (h := 2) (fun (x : St × Int32) ls H locs => lv_has ls 6 [(2, .int x.2), (0, .ref (a h0)), (1, .ref (a x0))] ∧ va_P (dC, dI) vwCl (Wd cy a sh n x.1) H ∧ va_D A (Wd cy a sh n x.1) ∧ va_S A s.heap H locs) (fun f x => fn_X5_measure_L2 F sh n h0 x0 f x.1 x.2) (z8, r8) ?_ (fun _ => rfl) F (z, 0) ls H locs ⟨hl0, hP, hD, hS⟩ hf
  intro f_3 x ls H locs ih2 hI hf
  obtain ⟨z_2, p_1⟩ := x
  obtain ⟨hl2, hP2, hD2, hS2⟩ := hI
  replace hl : lv_has ls 6 [(2, .int p_1), (0, .ref (a h0)), (1, .ref (a x0))] := hl2
  replace hP := hP2
  replace hD := hD2
  replace hS := hS2
  clear hl2 hP2 hD2 hS2 hl0
  replace hf := fn_X5_measure_L2_s hf
  refine lv_iload_n hx hb dX5_measure_2 rfl (lv_at hl 0 rfl) ?_
  refine lv_aload_n hx hb dX5_measure_3 rfl (lv_at hl 1 rfl) ?_
  obtain ⟨g_4, hf⟩ := grd_some hf
  obtain ⟨kg_4, sg_4⟩ := okO_at g_4
  refine va_get (D := (dC, dI)) (ci := 5) (v := .int (z_2.1 h0 9)) (C := RX5) (T := TX5) (N := 15) hx hb hts iwd_X5_measure_X5 hown hK hP h0 (Wd_ob kg_4 sg_4 (by decide)) rfl 9 (by decide) (hts _ md_X5_measure_1) (fun _ h9 => h9) (fl_at (t := 0) rfl) dX5_measure_4 ?_
  refine lv_icmp_ge (tgt := 66) hx hb dX5_measure_7 (by decide) (fun c_5 => ?_) (fun c_5 => ?_)
  · skip
    rw [if_pos c_5] at hf
    refine lv_iconst (v := 0) hx hb dX5_measure_66 (by decide) ?_
    refine lv_istore_n (lv' := [(2, .int 0), (0, .ref (a h0)), (1, .ref (a x0))]) hx hb dX5_measure_67 rfl hl (by decide) rfl (fun ls hl2 => ?_)
    replace hl := hl2
    clear hl2
    have hl0 : lv_has ls 6 [(2, .int 0), (0, .ref (a h0))] := lv_sub hl [0, 1] rfl
    refine de_loop (h := 68) (fun (x : St × Int32) ls H locs => lv_has ls 6 [(2, .int x.2), (0, .ref (a h0))] ∧ va_P (dC, dI) vwCl (Wd cy a sh n x.1) H ∧ va_D A (Wd cy a sh n x.1) ∧ va_S A s.heap H locs) (fun f x => fn_X5_measure_L68 F sh n h0 f x.1 x.2) (z8, r8) ?_ (fun _ => rfl) F (z_2, 0) ls H locs ⟨hl0, hP, hD, hS⟩ hf
    intro f_8 x ls H locs ih68 hI hf
    obtain ⟨z_7, p_6⟩ := x
    obtain ⟨hl2, hP2, hD2, hS2⟩ := hI
    replace hl : lv_has ls 6 [(2, .int p_6), (0, .ref (a h0))] := hl2
    replace hP := hP2
    replace hD := hD2
    replace hS := hS2
    clear hl2 hP2 hD2 hS2 hl0
    replace hf := fn_X5_measure_L68_s hf
    refine lv_iload_n hx hb dX5_measure_68 rfl (lv_at hl 0 rfl) ?_
    refine lv_aload_n hx hb dX5_measure_69 rfl (lv_at hl 1 rfl) ?_
    refine va_get (D := (dC, dI)) (ci := 5) (v := .int (z_7.1 h0 8)) (C := RX5) (T := TX5) (N := 15) hx hb hts iwd_X5_measure_X5 hown hK hP h0 (Wd_ob kg_4 sg_4 (by decide)) rfl 8 (by decide) (hts _ md_X5_measure_2) (fun _ h9 => h9) (fl_at (t := 0) rfl) dX5_measure_70 ?_
    refine lv_icmp_ge (tgt := 149) hx hb dX5_measure_73 (by decide) (fun c_9 => ?_) (fun c_9 => ?_)
    · skip
      rw [if_pos c_9] at hf
      obtain ⟨h8, h9⟩ := ret_some hf
      rw [h8]
      exact W.vret hx hb hr (fun t ht hW => ⟨⟨(), rfl, trivial, by rw [ht]; exact hP, va_K.moved hW.alike hK, hD⟩, hS.F ht⟩) hS.2.2 dX5_measure_149
    · skip
      rw [if_neg c_9] at hf
      refine lv_iconst (v := 0) hx hb dX5_measure_76 (by decide) ?_
      refine lv_istore_n (lv' := [(3, .int 0), (2, .int p_6), (0, .ref (a h0))]) hx hb dX5_measure_77 rfl hl (by decide) rfl (fun ls hl2 => ?_)
      replace hl := hl2
      clear hl2
      have hl0 : lv_has ls 6 [(3, .int 0), (2, .int p_6), (0, .ref (a h0))] := lv_sub hl [0, 1, 2] rfl
      refine de_loop (h := 78) (fun (x : St × Int32) ls H locs => lv_has ls 6 [(3, .int x.2), (2, .int p_6), (0, .ref (a h0))] ∧ va_P (dC, dI) vwCl (Wd cy a sh n x.1) H ∧ va_D A (Wd cy a sh n x.1) ∧ va_S A s.heap H locs) (fun f x => fn_X5_measure_L78 F sh n h0 p_6 (fun z9 q2 => fn_X5_measure_L68 F sh n h0 f_8 z9 q2) f x.1 x.2) (z8, r8) ?_ (fun _ => rfl) F (z_7, 0) ls H locs ⟨hl0, hP, hD, hS⟩ hf
      intro f_12 x ls H locs ih78 hI hf
      obtain ⟨z_11, p_10⟩ := x
      obtain ⟨hl2, hP2, hD2, hS2⟩ := hI
      replace hl : lv_has ls 6 [(3, .int p_10), (2, .int p_6), (0, .ref (a h0))] := hl2
      replace hP := hP2
      replace hD := hD2
      replace hS := hS2
      clear hl2 hP2 hD2 hS2 hl0
      replace hf := fn_X5_measure_L78_s hf
      refine lv_iload_n hx hb dX5_measure_78 rfl (lv_at hl 0 rfl) ?_
      refine lv_aload_n hx hb dX5_measure_79 rfl (lv_at hl 2 rfl) ?_
      refine va_get (D := (dC, dI)) (ci := 5) (v := .int (z_11.1 h0 8)) (C := RX5) (T := TX5) (N := 15) hx hb hts iwd_X5_measure_X5 hown hK hP h0 (Wd_ob kg_4 sg_4 (by decide)) rfl 8 (by decide) (hts _ md_X5_measure_2) (fun _ h9 => h9) (fl_at (t := 0) rfl) dX5_measure_80 ?_
      refine lv_icmp_ge (tgt := 143) hx hb dX5_measure_83 (by decide) (fun c_13 => ?_) (fun c_13 => ?_)
      · skip
        rw [if_pos c_13] at hf
        refine lv_iinc (v := (p_6 + 1)) (lv' := [(2, .int (p_6 + 1)), (3, .int p_10), (0, .ref (a h0))]) hx hb dX5_measure_143 hl (k := 1) rfl rfl (by decide) rfl (fun ls hl2 => ?_)
        replace hl := hl2
        clear hl2
        refine lv_goto (tgt := 68) hx hb dX5_measure_146 (by decide) ?_
        exact ih68 (z_11, (p_6 + 1)) ls H locs ⟨lv_sub hl [0, 2] rfl, hP, hD, hS⟩ hf
      · skip
        rw [if_neg c_13] at hf
        refine lv_iconst (v := 0) hx hb dX5_measure_86 (by decide) ?_
        refine lv_istore (lv' := [(4, .int 0), (3, .int p_10), (2, .int p_6), (0, .ref (a h0))]) hx hb dX5_measure_87 hl (by decide) rfl (fun ls hl2 => ?_)
        replace hl := hl2
        clear hl2
        refine lv_iconst (v := 0) hx hb dX5_measure_89 (by decide) ?_
        refine lv_istore (lv' := [(5, .int 0), (4, .int 0), (3, .int p_10), (2, .int p_6), (0, .ref (a h0))]) hx hb dX5_measure_90 hl (by decide) rfl (fun ls hl2 => ?_)
        replace hl := hl2
        clear hl2
        have hl0 : lv_has ls 6 [(5, .int 0), (4, .int 0), (3, .int p_10), (2, .int p_6), (0, .ref (a h0))] := lv_sub hl [0, 1, 2, 3, 4] rfl
        refine de_loop (h := 92) (fun (x : St × Int32 × Int32) ls H locs => lv_has ls 6 [(5, .int x.2.2), (4, .int x.2.1), (3, .int p_10), (2, .int p_6), (0, .ref (a h0))] ∧ va_P (dC, dI) vwCl (Wd cy a sh n x.1) H ∧ va_D A (Wd cy a sh n x.1) ∧ va_S A s.heap H locs) (fun f x => fn_X5_measure_L92 F sh n h0 p_10 (fun z9 q3 => fn_X5_measure_L78 F sh n h0 p_6 (fun z9 q2 => fn_X5_measure_L68 F sh n h0 f_8 z9 q2) f_12 z9 q3) f x.1 x.2.1 x.2.2) (z8, r8) ?_ (fun _ => rfl) F (z_11, 0, 0) ls H locs ⟨hl0, hP, hD, hS⟩ hf
        intro f_17 x ls H locs ih92 hI hf
        obtain ⟨z_16, p_14, p_15⟩ := x
        obtain ⟨hl2, hP2, hD2, hS2⟩ := hI
        replace hl : lv_has ls 6 [(5, .int p_15), (4, .int p_14), (3, .int p_10), (2, .int p_6), (0, .ref (a h0))] := hl2
        replace hP := hP2
        replace hD := hD2
        replace hS := hS2
        clear hl2 hP2 hD2 hS2 hl0
        replace hf := fn_X5_measure_L92_s hf
        refine lv_iload hx hb dX5_measure_92 (lv_at hl 0 rfl) ?_
        refine lv_aload_n hx hb dX5_measure_94 rfl (lv_at hl 4 rfl) ?_
        refine lv_iload_n hx hb dX5_measure_95 rfl (lv_at hl 2 rfl) ?_
        obtain ⟨z_18, r_19, hfc, hf⟩ := cal_some hf
        have hFc := de_free hD hS hA
        refine va_calli (va_runV (As := [.int p_10]) (rest := [.int p_15]) ⟨hx, hb, hml, hown, hts⟩ (de_X5_fieldCount l dC dI cy a sh n H.size F z_16 h0 p_10 hfc) (cwV 1 hts gX5_measure_X5_fieldCount rfl rfl rfl (by decide +kernel) ⟨Nat.le_of_ble_eq_true rfl, Nat.le_of_ble_eq_true rfl⟩) ⟨fun a U g mk q => by obtain ⟨q0, q1, qP, qK, qD, qN⟩ := q; exact ⟨q0, q1, qP, va_K.moved (u := U) (U := U.calling g mk a) (Vm.Alike.refl U.vm) qK, qD, qN.same rfl⟩, va_recv hK hP (ci := 5) (q0 := h0) rfl (Wd_ob kg_4 sg_4 (by decide)), fun U hU hW => ⟨rfl, by rw [hU], by rw [hU]; exact hP, va_K.moved hW.alike hK, hD.weaken (fun _ _ _ _ => trivial), hN.warm hW⟩⟩ rfl rfl hl.1 rfl (lv_room (Nat.le_of_ble_eq_true rfl)) dX5_measure_96 ⟨Nat.le_of_ble_eq_true rfl, Nat.le_of_ble_eq_true rfl⟩) hS (fun q _ h => hFc q h) hFc (fun rr u t H_20 locs ht hvm hw hB hz1 hk1 hS2 => ?_)
        rw [hw]
        clear hw
        obtain ⟨hP1, -, hD1⟩ := hB
        rw [ht] at hP1
        replace hD := hD1.weaken (fun _ _ _ h => hFc _ h)
        replace hP := hP1
        replace hS := hS2
        clear hP1 hD1 hS2 hFc hfc hz1 hk1 hvm ht
        refine lv_icmp_ge (tgt := 126) hx hb dX5_measure_99 (by decide) (fun c_21 => ?_) (fun c_21 => ?_)
        · skip
          rw [if_pos c_21] at hf
          refine lv_aload_n hx hb dX5_measure_126 rfl (lv_at hl 4 rfl) ?_
          refine lv_iload_n hx hb dX5_measure_127 rfl (lv_at hl 2 rfl) ?_
          refine lv_bipush (v := 6) hx hb dX5_measure_128 (by decide) ?_
          refine lv_iload hx hb dX5_measure_130 (lv_at hl 1 rfl) ?_
          refine lv_iconst (v := 1) hx hb dX5_measure_132 (by decide) ?_
          refine lv_iadd hx hb dX5_measure_133 ?_
          obtain ⟨z_22, _u, hfc, hf⟩ := cal_some hf
          have hFc := de_free hD hS hA
          refine va_callv (va_runV (As := [.int p_10, .int 6, .int (p_14 + 1)]) (rest := []) ⟨hx, hb, hml, hown, hts⟩ (de_X5_setStructure l dC dI cy a sh n H_20.size F z_18 h0 p_10 6 (p_14 + 1) hfc) (cwV 3 hts gX5_measure_X5_setStructure rfl rfl rfl (by decide +kernel) ⟨Nat.le_of_ble_eq_true rfl, Nat.le_of_ble_eq_true rfl⟩) ⟨fun a U g mk q => by obtain ⟨q0, q1, qP, qK, qD, qN⟩ := q; exact ⟨q0, q1, qP, va_K.moved (u := U) (U := U.calling g mk a) (Vm.Alike.refl U.vm) qK, qD, qN.same rfl⟩, va_recv hK hP (ci := 5) (q0 := h0) rfl (Wd_ob kg_4 sg_4 (by decide)), fun U hU hW => ⟨rfl, by rw [hU], by rw [hU]; exact hP, va_K.moved hW.alike hK, hD.weaken (fun _ _ _ _ => trivial), hN.warm hW⟩⟩ rfl rfl hl.1 rfl (lv_room (Nat.le_of_ble_eq_true rfl)) dX5_measure_134 ⟨Nat.le_of_ble_eq_true rfl, Nat.le_of_ble_eq_true rfl⟩) hS (fun q _ h => hFc q h) hFc (fun u t H_23 locs ht hvm hw hB hz1 hk1 hS2 => ?_)
          obtain ⟨hP1, -, hD1⟩ := hB
          rw [ht] at hP1
          replace hD := hD1.weaken (fun _ _ _ h => hFc _ h)
          replace hP := hP1
          replace hS := hS2
          clear hP1 hD1 hS2 hFc hfc hz1 hk1 hvm ht
          refine lv_iinc (v := (p_10 + 1)) (lv' := [(3, .int (p_10 + 1)), (5, .int p_15), (4, .int p_14), (2, .int p_6), (0, .ref (a h0))]) hx hb dX5_measure_137 hl (k := 2) rfl rfl (by decide) rfl (fun ls hl2 => ?_)
          replace hl := hl2
          clear hl2
          refine lv_goto (tgt := 78) hx hb dX5_measure_140 (by decide) ?_
          exact ih78 (z_22, (p_10 + 1)) ls H_23 locs ⟨lv_sub hl [0, 3, 4] rfl, hP, hD, hS⟩ hf
        · skip
          rw [if_neg c_21] at hf
          refine lv_iload hx hb dX5_measure_102 (lv_at hl 1 rfl) ?_
          refine lv_aload_n hx hb dX5_measure_104 rfl (lv_at hl 4 rfl) ?_
          refine lv_aload_n hx hb dX5_measure_105 rfl (lv_at hl 4 rfl) ?_
          refine lv_iload_n hx hb dX5_measure_106 rfl (lv_at hl 2 rfl) ?_
          refine lv_iload hx hb dX5_measure_107 (lv_at hl 0 rfl) ?_
          obtain ⟨z_24, r_25, hfc, hf⟩ := cal_some hf
          have hFc := de_free hD hS hA
          refine va_calll (va_runV (As := [.int p_10, .int p_15]) (rest := [.ref (a h0), .int p_14]) ⟨hx, hb, hml, hown, hts⟩ (de_X5_fieldType l dC dI cy a sh n H_20.size F z_18 h0 p_10 p_15 hfc) (cwV 2 hts gX5_measure_X5_fieldType rfl rfl rfl (by decide +kernel) ⟨Nat.le_of_ble_eq_true rfl, Nat.le_of_ble_eq_true rfl⟩) ⟨fun a U g mk q => by obtain ⟨q0, q1, qP, qK, qD, qN⟩ := q; exact ⟨q0, q1, qP, va_K.moved (u := U) (U := U.calling g mk a) (Vm.Alike.refl U.vm) qK, qD, qN.same rfl⟩, va_recv hK hP (ci := 5) (q0 := h0) rfl (Wd_ob kg_4 sg_4 (by decide)), fun U hU hW => ⟨rfl, by rw [hU], by rw [hU]; exact hP, va_K.moved hW.alike hK, hD.weaken (fun _ _ _ _ => trivial), hN.warm hW⟩⟩ rfl rfl hl.1 rfl (lv_room (Nat.le_of_ble_eq_true rfl)) dX5_measure_109 ⟨Nat.le_of_ble_eq_true rfl, Nat.le_of_ble_eq_true rfl⟩) hS (fun q _ h => hFc q h) hFc (fun rr u t H_26 locs ht hvm hw hB hz1 hk1 hS2 => ?_)
          rw [hw]
          clear hw
          obtain ⟨hP1, -, hD1⟩ := hB
          rw [ht] at hP1
          replace hD := hD1.weaken (fun _ _ _ h => hFc _ h)
          replace hP := hP1
          replace hS := hS2
          clear hP1 hD1 hS2 hFc hfc hz1 hk1 hvm ht
          obtain ⟨z_27, r_28, hfc, hf⟩ := cal_some hf
          have hFc := de_free hD hS hA
          refine va_calli (va_runV (As := [.long r_25]) (rest := [.int p_14]) ⟨hx, hb, hml, hown, hts⟩ (de_X5_depthOf l dC dI cy a sh n H_26.size F z_24 h0 r_25 hfc) (cwV 1 hts gX5_measure_X5_depthOf rfl rfl rfl (by decide +kernel) ⟨Nat.le_of_ble_eq_true rfl, Nat.le_of_ble_eq_true rfl⟩) ⟨fun a U g mk q => by obtain ⟨q0, q1, qP, qK, qD, qN⟩ := q; exact ⟨q0, q1, qP, va_K.moved (u := U) (U := U.calling g mk a) (Vm.Alike.refl U.vm) qK, qD, qN.same rfl⟩, va_recv hK hP (ci := 5) (q0 := h0) rfl (Wd_ob kg_4 sg_4 (by decide)), fun U hU hW => ⟨rfl, by rw [hU], by rw [hU]; exact hP, va_K.moved hW.alike hK, hD.weaken (fun _ _ _ _ => trivial), hN.warm hW⟩⟩ rfl rfl hl.1 rfl (lv_room (Nat.le_of_ble_eq_true rfl)) dX5_measure_112 ⟨Nat.le_of_ble_eq_true rfl, Nat.le_of_ble_eq_true rfl⟩) hS (fun q _ h => hFc q h) hFc (fun rr u t H_29 locs ht hvm hw hB hz1 hk1 hS2 => ?_)
          rw [hw]
          clear hw
          obtain ⟨hP1, -, hD1⟩ := hB
          rw [ht] at hP1
          replace hD := hD1.weaken (fun _ _ _ h => hFc _ h)
          replace hP := hP1
          replace hS := hS2
          clear hP1 hD1 hS2 hFc hfc hz1 hk1 hvm ht
          refine va_mmax hx hb (hml.trans hl.1.symm) hown (hts _ md_X5_measure_3) (hts _ md_X5_measure_4) (hts _ md_X5_measure_5) (hts _ md_X5_measure_6) (Nat.le_of_ble_eq_true rfl) (Nat.le_of_ble_eq_true rfl) (Nat.le_of_ble_eq_true rfl) (Nat.le_of_ble_eq_true rfl) dX5_measure_115 ?_
          refine lv_topi (fun v_30 ev_30 => ?_)
          replace hf := lt_at ev_30 hf
          clear ev_30
          refine lv_istore (lv' := [(4, .int v_30), (5, .int p_15), (3, .int p_10), (2, .int p_6), (0, .ref (a h0))]) hx hb dX5_measure_118 hl (by decide) rfl (fun ls hl2 => ?_)
          replace hl := hl2
          clear hl2
          refine lv_iinc (v := (p_15 + 1)) (lv' := [(5, .int (p_15 + 1)), (4, .int v_30), (3, .int p_10), (2, .int p_6), (0, .ref (a h0))]) hx hb dX5_measure_120 hl (k := 1) rfl rfl (by decide) rfl (fun ls hl2 => ?_)
          replace hl := hl2
          clear hl2
          refine lv_goto (tgt := 92) hx hb dX5_measure_123 (by decide) ?_
          exact ih92 (z_27, v_30, (p_15 + 1)) ls H_29 locs ⟨lv_sub hl [0, 1, 2, 3, 4] rfl, hP, hD, hS⟩ hf
  · skip
    rw [if_neg c_5] at hf
    refine lv_iload_n hx hb dX5_measure_10 rfl (lv_at hl 0 rfl) ?_
    refine lv_aload_n hx hb dX5_measure_11 rfl (lv_at hl 1 rfl) ?_
    refine va_get (D := (dC, dI)) (ci := 5) (v := .int (z_2.1 h0 8)) (C := RX5) (T := TX5) (N := 15) hx hb hts iwd_X5_measure_X5 hown hK hP h0 (Wd_ob kg_4 sg_4 (by decide)) rfl 8 (by decide) (hts _ md_X5_measure_2) (fun _ h9 => h9) (fl_at (t := 0) rfl) dX5_measure_12 ?_
    refine lv_icmp_ge (tgt := 22) hx hb dX5_measure_15 (by decide) (fun c_31 => ?_) (fun c_31 => ?_)
    · skip
      rw [if_pos c_31] at hf
      refine lv_aload_n hx hb dX5_measure_22 rfl (lv_at hl 2 rfl) ?_
      refine lv_aload_n hx hb dX5_measure_23 rfl (lv_at hl 1 rfl) ?_
      refine lv_iload_n hx hb dX5_measure_24 rfl (lv_at hl 0 rfl) ?_
      refine lv_iconst (v := 4) hx hb dX5_measure_25 (by decide) ?_
      obtain ⟨z_32, r_33, hfc, hf⟩ := cal_some hf
      have hFc := de_free hD hS hA
      refine va_calli (va_runV (As := [.int p_1, .int 4]) (rest := [.ref (a x0)]) ⟨hx, hb, hml, hown, hts⟩ (de_X5_structureColumn l dC dI cy a sh n H.size F z_2 h0 p_1 4 hfc) (cwV 2 hts gX5_measure_X5_structureColumn rfl rfl rfl (by decide +kernel) ⟨Nat.le_of_ble_eq_true rfl, Nat.le_of_ble_eq_true rfl⟩) ⟨fun a U g mk q => by obtain ⟨q0, q1, qP, qK, qD, qN⟩ := q; exact ⟨q0, q1, qP, va_K.moved (u := U) (U := U.calling g mk a) (Vm.Alike.refl U.vm) qK, qD, qN.same rfl⟩, va_recv hK hP (ci := 5) (q0 := h0) rfl (Wd_ob kg_4 sg_4 (by decide)), fun U hU hW => ⟨rfl, by rw [hU], by rw [hU]; exact hP, va_K.moved hW.alike hK, hD.weaken (fun _ _ _ _ => trivial), hN.warm hW⟩⟩ rfl rfl hl.1 rfl (lv_room (Nat.le_of_ble_eq_true rfl)) dX5_measure_26 ⟨Nat.le_of_ble_eq_true rfl, Nat.le_of_ble_eq_true rfl⟩) hS (fun q _ h => hFc q h) hFc (fun rr u t H_34 locs ht hvm hw hB hz1 hk1 hS2 => ?_)
      rw [hw]
      clear hw
      obtain ⟨hP1, -, hD1⟩ := hB
      rw [ht] at hP1
      replace hD := hD1.weaken (fun _ _ _ h => hFc _ h)
      replace hP := hP1
      replace hS := hS2
      clear hP1 hD1 hS2 hFc hfc hz1 hk1 hvm ht
      obtain ⟨g_37, hf⟩ := grd_some hf
      obtain ⟨kg_37, sg_37⟩ := okO_at g_37
      obtain ⟨z_35, r_36, hfc, hf⟩ := cal_some hf
      have hFc := de_free hD hS hA
      refine va_callq (va_runV (As := [.int r_33]) (rest := []) ⟨hx, hb, hml, hown, hts⟩ (de_X7_findProgram l dC dI cy a sh n H_34.size F z_32 x0 r_33 hfc) (cwV 1 hts gX5_measure_X7_findProgram rfl rfl rfl (by decide +kernel) ⟨Nat.le_of_ble_eq_true rfl, Nat.le_of_ble_eq_true rfl⟩) ⟨fun a U g mk q => by obtain ⟨q0, q1, qP, qK, qD, qN⟩ := q; exact ⟨q0, q1, qP, va_K.moved (u := U) (U := U.calling g mk a) (Vm.Alike.refl U.vm) qK, qD, qN.same rfl⟩, va_recv hK hP (ci := 7) (q0 := x0) rfl (Wd_ob kg_37 sg_37 (by decide)), fun U hU hW => ⟨rfl, by rw [hU], by rw [hU]; exact hP, va_K.moved hW.alike hK, hD.weaken (fun _ _ _ _ => trivial), hN.warm hW⟩⟩ rfl rfl hl.1 rfl (lv_room (Nat.le_of_ble_eq_true rfl)) dX5_measure_29 ⟨Nat.le_of_ble_eq_true rfl, Nat.le_of_ble_eq_true rfl⟩) hS (fun q _ h => hFc q h) hFc (fun rr u t H_38 locs ht hvm hw hB hz1 hk1 hS2 => ?_)
      rw [hw]
      clear hw
      obtain ⟨hP1, -, hD1⟩ := hB
      rw [ht] at hP1
      replace hD := hD1.weaken (fun _ _ _ h => hFc _ h)
      replace hP := hP1
      replace hS := hS2
      clear hP1 hD1 hS2 hFc hfc hz1 hk1 hvm ht
      rcases r_36 with _ | k_39
      · skip
        replace hf := nul_none hf
        refine W.eq (g2 := F0 m 32 ls [.null]) rfl ?_
        refine lv_astore_nN (lv' := [(3, .null), (2, .int p_1), (0, .ref (a h0)), (1, .ref (a x0))]) hx hb dX5_measure_32 rfl hl (by decide) rfl (fun ls hl2 => ?_)
        replace hl := hl2
        clear hl2
        refine lv_aload_n hx hb dX5_measure_33 rfl (lv_at hl 2 rfl) ?_
        refine lv_iload_n hx hb dX5_measure_34 rfl (lv_at hl 1 rfl) ?_
        refine lv_bipush (v := 6) hx hb dX5_measure_35 (by decide) ?_
        refine lv_aload_nN hx hb dX5_measure_37 rfl (lv_at hl 0 rfl) ?_
        refine de_cut (h := 57) (fun (x : St × Int32) => [.int x.2, .int 6, .int p_1, .ref (a h0)]) (fun x ls H locs => lv_has ls 6 [(2, .int p_1), (0, .ref (a h0)), (1, .ref (a x0))] ∧ va_P (dC, dI) vwCl (Wd cy a sh n x.1) H ∧ va_D A (Wd cy a sh n x.1) ∧ va_S A s.heap H locs) (fun x => fn_X5_measure_B57 F sh n h0 p_1 (fun z9 q2 => fn_X5_measure_L2 F sh n h0 x0 f_3 z9 q2) x.1 x.2) (z8, r8) ?_ (fun B57 => ?_)
        · intro x ls H locs hI hf
          obtain ⟨z_41, p_40⟩ := x
          obtain ⟨hl2, hP2, hD2, hS2⟩ := hI
          replace hl : lv_has ls 6 [(2, .int p_1), (0, .ref (a h0)), (1, .ref (a x0))] := hl2
          replace hP := hP2
          replace hD := hD2
          replace hS := hS2
          clear hl2 hP2 hD2 hS2
          replace hf := fn_X5_measure_B57_s hf
          refine W.eq (g2 := F0 m 57 ls [.int p_40, .int 6, .int p_1, .ref (a h0)]) rfl ?_
          obtain ⟨z_42, _u, hfc, hf⟩ := cal_some hf
          have hFc := de_free hD hS hA
          refine va_callv (va_runV (As := [.int p_1, .int 6, .int p_40]) (rest := []) ⟨hx, hb, hml, hown, hts⟩ (de_X5_setStructure l dC dI cy a sh n H.size F z_41 h0 p_1 6 p_40 hfc) (cwV 3 hts gX5_measure_X5_setStructure rfl rfl rfl (by decide +kernel) ⟨Nat.le_of_ble_eq_true rfl, Nat.le_of_ble_eq_true rfl⟩) ⟨fun a U g mk q => by obtain ⟨q0, q1, qP, qK, qD, qN⟩ := q; exact ⟨q0, q1, qP, va_K.moved (u := U) (U := U.calling g mk a) (Vm.Alike.refl U.vm) qK, qD, qN.same rfl⟩, va_recv hK hP (ci := 5) (q0 := h0) rfl (Wd_ob kg_4 sg_4 (by decide)), fun U hU hW => ⟨rfl, by rw [hU], by rw [hU]; exact hP, va_K.moved hW.alike hK, hD.weaken (fun _ _ _ _ => trivial), hN.warm hW⟩⟩ rfl rfl hl.1 rfl (lv_room (Nat.le_of_ble_eq_true rfl)) dX5_measure_57 ⟨Nat.le_of_ble_eq_true rfl, Nat.le_of_ble_eq_true rfl⟩) hS (fun q _ h => hFc q h) hFc (fun u t H_43 locs ht hvm hw hB hz1 hk1 hS2 => ?_)
          obtain ⟨hP1, -, hD1⟩ := hB
          rw [ht] at hP1
          replace hD := hD1.weaken (fun _ _ _ h => hFc _ h)
          replace hP := hP1
          replace hS := hS2
          clear hP1 hD1 hS2 hFc hfc hz1 hk1 hvm ht
          refine lv_iinc (v := (p_1 + 1)) (lv' := [(2, .int (p_1 + 1)), (0, .ref (a h0)), (1, .ref (a x0))]) hx hb dX5_measure_60 hl (k := 0) rfl rfl (by decide) rfl (fun ls hl2 => ?_)
          replace hl := hl2
          clear hl2
          refine lv_goto (tgt := 2) hx hb dX5_measure_63 (by decide) ?_
          exact ih2 (z_42, (p_1 + 1)) ls H_43 locs ⟨lv_sub hl [0, 1, 2] rfl, hP, hD, hS⟩ hf
        refine lv_ifnonnullN hx hb dX5_measure_38 ?_
        refine lv_iconst (v := 0) hx hb dX5_measure_41 (by decide) ?_
        refine lv_goto (tgt := 57) hx hb dX5_measure_42 (by decide) ?_
        exact B57 (z_35, 0) ls H_38 locs ⟨lv_sub hl [1, 2, 3] rfl, hP, hD, hS⟩ hf
      · skip
        replace hf := nul_some hf
        refine W.eq (g2 := F0 m 32 ls [.ref (a k_39)]) rfl ?_
        refine lv_astore_n (lv' := [(3, .ref (a k_39)), (2, .int p_1), (0, .ref (a h0)), (1, .ref (a x0))]) hx hb dX5_measure_32 rfl hl (by decide) rfl (fun ls hl2 => ?_)
        replace hl := hl2
        clear hl2
        refine lv_aload_n hx hb dX5_measure_33 rfl (lv_at hl 2 rfl) ?_
        refine lv_iload_n hx hb dX5_measure_34 rfl (lv_at hl 1 rfl) ?_
        refine lv_bipush (v := 6) hx hb dX5_measure_35 (by decide) ?_
        refine lv_aload_n hx hb dX5_measure_37 rfl (lv_at hl 0 rfl) ?_
        refine de_cut (h := 57) (fun (x : St × Int32) => [.int x.2, .int 6, .int p_1, .ref (a h0)]) (fun x ls H locs => lv_has ls 6 [(2, .int p_1), (0, .ref (a h0)), (1, .ref (a x0))] ∧ va_P (dC, dI) vwCl (Wd cy a sh n x.1) H ∧ va_D A (Wd cy a sh n x.1) ∧ va_S A s.heap H locs) (fun x => fn_X5_measure_B57_2 F sh n h0 p_1 (fun z9 q2 => fn_X5_measure_L2 F sh n h0 x0 f_3 z9 q2) x.1 x.2) (z8, r8) ?_ (fun B57_2 => ?_)
        · intro x ls H locs hI hf
          obtain ⟨z_45, p_44⟩ := x
          obtain ⟨hl2, hP2, hD2, hS2⟩ := hI
          replace hl : lv_has ls 6 [(2, .int p_1), (0, .ref (a h0)), (1, .ref (a x0))] := hl2
          replace hP := hP2
          replace hD := hD2
          replace hS := hS2
          clear hl2 hP2 hD2 hS2
          replace hf := fn_X5_measure_B57_2_s hf
          refine W.eq (g2 := F0 m 57 ls [.int p_44, .int 6, .int p_1, .ref (a h0)]) rfl ?_
          obtain ⟨z_46, _u, hfc, hf⟩ := cal_some hf
          have hFc := de_free hD hS hA
          refine va_callv (va_runV (As := [.int p_1, .int 6, .int p_44]) (rest := []) ⟨hx, hb, hml, hown, hts⟩ (de_X5_setStructure l dC dI cy a sh n H.size F z_45 h0 p_1 6 p_44 hfc) (cwV 3 hts gX5_measure_X5_setStructure rfl rfl rfl (by decide +kernel) ⟨Nat.le_of_ble_eq_true rfl, Nat.le_of_ble_eq_true rfl⟩) ⟨fun a U g mk q => by obtain ⟨q0, q1, qP, qK, qD, qN⟩ := q; exact ⟨q0, q1, qP, va_K.moved (u := U) (U := U.calling g mk a) (Vm.Alike.refl U.vm) qK, qD, qN.same rfl⟩, va_recv hK hP (ci := 5) (q0 := h0) rfl (Wd_ob kg_4 sg_4 (by decide)), fun U hU hW => ⟨rfl, by rw [hU], by rw [hU]; exact hP, va_K.moved hW.alike hK, hD.weaken (fun _ _ _ _ => trivial), hN.warm hW⟩⟩ rfl rfl hl.1 rfl (lv_room (Nat.le_of_ble_eq_true rfl)) dX5_measure_57 ⟨Nat.le_of_ble_eq_true rfl, Nat.le_of_ble_eq_true rfl⟩) hS (fun q _ h => hFc q h) hFc (fun u t H_47 locs ht hvm hw hB hz1 hk1 hS2 => ?_)
          obtain ⟨hP1, -, hD1⟩ := hB
          rw [ht] at hP1
          replace hD := hD1.weaken (fun _ _ _ h => hFc _ h)
          replace hP := hP1
          replace hS := hS2
          clear hP1 hD1 hS2 hFc hfc hz1 hk1 hvm ht
          refine lv_iinc (v := (p_1 + 1)) (lv' := [(2, .int (p_1 + 1)), (0, .ref (a h0)), (1, .ref (a x0))]) hx hb dX5_measure_60 hl (k := 0) rfl rfl (by decide) rfl (fun ls hl2 => ?_)
          replace hl := hl2
          clear hl2
          refine lv_goto (tgt := 2) hx hb dX5_measure_63 (by decide) ?_
          exact ih2 (z_46, (p_1 + 1)) ls H_47 locs ⟨lv_sub hl [0, 1, 2] rfl, hP, hD, hS⟩ hf
        refine lv_ifnonnull (tgt := 45) hx hb dX5_measure_38 (by decide) ?_
        refine lv_aload_n hx hb dX5_measure_45 rfl (lv_at hl 0 rfl) ?_
        refine lv_aload_n hx hb dX5_measure_46 rfl (lv_at hl 2 rfl) ?_
        refine lv_iload_n hx hb dX5_measure_47 rfl (lv_at hl 1 rfl) ?_
        refine lv_iconst (v := 5) hx hb dX5_measure_48 (by decide) ?_
        obtain ⟨z_48, r_49, hfc, hf⟩ := cal_some hf
        have hFc := de_free hD hS hA
        refine va_calli (va_runV (As := [.int p_1, .int 5]) (rest := [.ref (a k_39), .int 6, .int p_1, .ref (a h0)]) ⟨hx, hb, hml, hown, hts⟩ (de_X5_structureColumn l dC dI cy a sh n H_38.size F z_35 h0 p_1 5 hfc) (cwV 2 hts gX5_measure_X5_structureColumn rfl rfl rfl (by decide +kernel) ⟨Nat.le_of_ble_eq_true rfl, Nat.le_of_ble_eq_true rfl⟩) ⟨fun a U g mk q => by obtain ⟨q0, q1, qP, qK, qD, qN⟩ := q; exact ⟨q0, q1, qP, va_K.moved (u := U) (U := U.calling g mk a) (Vm.Alike.refl U.vm) qK, qD, qN.same rfl⟩, va_recv hK hP (ci := 5) (q0 := h0) rfl (Wd_ob kg_4 sg_4 (by decide)), fun U hU hW => ⟨rfl, by rw [hU], by rw [hU]; exact hP, va_K.moved hW.alike hK, hD.weaken (fun _ _ _ _ => trivial), hN.warm hW⟩⟩ rfl rfl hl.1 rfl (lv_room (Nat.le_of_ble_eq_true rfl)) dX5_measure_49 ⟨Nat.le_of_ble_eq_true rfl, Nat.le_of_ble_eq_true rfl⟩) hS (fun q _ h => hFc q h) hFc (fun rr u t H_50 locs ht hvm hw hB hz1 hk1 hS2 => ?_)
        rw [hw]
        clear hw
        obtain ⟨hP1, -, hD1⟩ := hB
        rw [ht] at hP1
        replace hD := hD1.weaken (fun _ _ _ h => hFc _ h)
        replace hP := hP1
        replace hS := hS2
        clear hP1 hD1 hS2 hFc hfc hz1 hk1 hvm ht
        refine lv_bipush (v := 6) hx hb dX5_measure_52 (by decide) ?_
        obtain ⟨g_53, hf⟩ := grd_some hf
        obtain ⟨kg_53, sg_53⟩ := okO_at g_53
        obtain ⟨z_51, r_52, hfc, hf⟩ := cal_some hf
        have hFc := de_free hD hS hA
        refine va_calli (va_runV (As := [.int r_49, .int 6]) (rest := [.int 6, .int p_1, .ref (a h0)]) ⟨hx, hb, hml, hown, hts⟩ (de_X5_structureColumn l dC dI cy a sh n H_50.size F z_48 k_39 r_49 6 hfc) (cwV 2 hts gX5_measure_X5_structureColumn rfl rfl rfl (by decide +kernel) ⟨Nat.le_of_ble_eq_true rfl, Nat.le_of_ble_eq_true rfl⟩) ⟨fun a U g mk q => by obtain ⟨q0, q1, qP, qK, qD, qN⟩ := q; exact ⟨q0, q1, qP, va_K.moved (u := U) (U := U.calling g mk a) (Vm.Alike.refl U.vm) qK, qD, qN.same rfl⟩, va_recv hK hP (ci := 5) (q0 := k_39) rfl (Wd_ob kg_53 sg_53 (by decide)), fun U hU hW => ⟨rfl, by rw [hU], by rw [hU]; exact hP, va_K.moved hW.alike hK, hD.weaken (fun _ _ _ _ => trivial), hN.warm hW⟩⟩ rfl rfl hl.1 rfl (lv_room (Nat.le_of_ble_eq_true rfl)) dX5_measure_54 ⟨Nat.le_of_ble_eq_true rfl, Nat.le_of_ble_eq_true rfl⟩) hS (fun q _ h => hFc q h) hFc (fun rr u t H_54 locs ht hvm hw hB hz1 hk1 hS2 => ?_)
        rw [hw]
        clear hw
        obtain ⟨hP1, -, hD1⟩ := hB
        rw [ht] at hP1
        replace hD := hD1.weaken (fun _ _ _ h => hFc _ h)
        replace hP := hP1
        replace hS := hS2
        clear hP1 hD1 hS2 hFc hfc hz1 hk1 hvm ht
        exact B57_2 (z_51, r_52) ls H_54 locs ⟨lv_sub hl [1, 2, 3] rfl, hP, hD, hS⟩ hf
    · skip
      rw [if_neg c_31] at hf
      refine lv_null hx hb dX5_measure_18 ?_
      refine lv_goto (tgt := 32) hx hb dX5_measure_19 (by decide) ?_
      refine lv_astore_nN (lv' := [(3, .null), (2, .int p_1), (0, .ref (a h0)), (1, .ref (a x0))]) hx hb dX5_measure_32 rfl hl (by decide) rfl (fun ls hl2 => ?_)
      replace hl := hl2
      clear hl2
      refine lv_aload_n hx hb dX5_measure_33 rfl (lv_at hl 2 rfl) ?_
      refine lv_iload_n hx hb dX5_measure_34 rfl (lv_at hl 1 rfl) ?_
      refine lv_bipush (v := 6) hx hb dX5_measure_35 (by decide) ?_
      refine lv_aload_nN hx hb dX5_measure_37 rfl (lv_at hl 0 rfl) ?_
      refine de_cut (h := 57) (fun (x : St × Int32) => [.int x.2, .int 6, .int p_1, .ref (a h0)]) (fun x ls H locs => lv_has ls 6 [(2, .int p_1), (0, .ref (a h0)), (1, .ref (a x0))] ∧ va_P (dC, dI) vwCl (Wd cy a sh n x.1) H ∧ va_D A (Wd cy a sh n x.1) ∧ va_S A s.heap H locs) (fun x => fn_X5_measure_B57_3 F sh n h0 p_1 (fun z9 q2 => fn_X5_measure_L2 F sh n h0 x0 f_3 z9 q2) x.1 x.2) (z8, r8) ?_ (fun B57_3 => ?_)
      · intro x ls H locs hI hf
        obtain ⟨z_56, p_55⟩ := x
        obtain ⟨hl2, hP2, hD2, hS2⟩ := hI
        replace hl : lv_has ls 6 [(2, .int p_1), (0, .ref (a h0)), (1, .ref (a x0))] := hl2
        replace hP := hP2
        replace hD := hD2
        replace hS := hS2
        clear hl2 hP2 hD2 hS2
        replace hf := fn_X5_measure_B57_3_s hf
        refine W.eq (g2 := F0 m 57 ls [.int p_55, .int 6, .int p_1, .ref (a h0)]) rfl ?_
        obtain ⟨z_57, _u, hfc, hf⟩ := cal_some hf
        have hFc := de_free hD hS hA
        refine va_callv (va_runV (As := [.int p_1, .int 6, .int p_55]) (rest := []) ⟨hx, hb, hml, hown, hts⟩ (de_X5_setStructure l dC dI cy a sh n H.size F z_56 h0 p_1 6 p_55 hfc) (cwV 3 hts gX5_measure_X5_setStructure rfl rfl rfl (by decide +kernel) ⟨Nat.le_of_ble_eq_true rfl, Nat.le_of_ble_eq_true rfl⟩) ⟨fun a U g mk q => by obtain ⟨q0, q1, qP, qK, qD, qN⟩ := q; exact ⟨q0, q1, qP, va_K.moved (u := U) (U := U.calling g mk a) (Vm.Alike.refl U.vm) qK, qD, qN.same rfl⟩, va_recv hK hP (ci := 5) (q0 := h0) rfl (Wd_ob kg_4 sg_4 (by decide)), fun U hU hW => ⟨rfl, by rw [hU], by rw [hU]; exact hP, va_K.moved hW.alike hK, hD.weaken (fun _ _ _ _ => trivial), hN.warm hW⟩⟩ rfl rfl hl.1 rfl (lv_room (Nat.le_of_ble_eq_true rfl)) dX5_measure_57 ⟨Nat.le_of_ble_eq_true rfl, Nat.le_of_ble_eq_true rfl⟩) hS (fun q _ h => hFc q h) hFc (fun u t H_58 locs ht hvm hw hB hz1 hk1 hS2 => ?_)
        obtain ⟨hP1, -, hD1⟩ := hB
        rw [ht] at hP1
        replace hD := hD1.weaken (fun _ _ _ h => hFc _ h)
        replace hP := hP1
        replace hS := hS2
        clear hP1 hD1 hS2 hFc hfc hz1 hk1 hvm ht
        refine lv_iinc (v := (p_1 + 1)) (lv' := [(2, .int (p_1 + 1)), (0, .ref (a h0)), (1, .ref (a x0))]) hx hb dX5_measure_60 hl (k := 0) rfl rfl (by decide) rfl (fun ls hl2 => ?_)
        replace hl := hl2
        clear hl2
        refine lv_goto (tgt := 2) hx hb dX5_measure_63 (by decide) ?_
        exact ih2 (z_57, (p_1 + 1)) ls H_58 locs ⟨lv_sub hl [0, 1, 2] rfl, hP, hD, hS⟩ hf
      refine lv_ifnonnullN hx hb dX5_measure_38 ?_
      refine lv_iconst (v := 0) hx hb dX5_measure_41 (by decide) ?_
      refine lv_goto (tgt := 57) hx hb dX5_measure_42 (by decide) ?_
      exact B57_3 (z_2, 0) ls H locs ⟨lv_sub hl [1, 2, 3] rfl, hP, hD, hS⟩ hf
