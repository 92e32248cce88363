/-! PURE FUNCTIONS OF METHODS: none where a link is null, a place is not in its row, a cell is of another shape, or the turns of a loop are spent -/
def grd {β : Type} (b : Bool) (x : Option β) : Option β := match b with
  | true => x
  | false => none
theorem grd_some {β : Type} {b : Bool} {x : Option β} {y : β} (h : grd b x = some y) : b = true ∧ x = some y := by
  cases b with
  | true => exact ⟨rfl, h⟩
  | false => exact absurd h (by simp [grd])
def lt_ {α β : Type} (v : α) (f : α → Option β) : Option β := f v
theorem lt_at {α β : Type} {v w : α} {f : α → Option β} {y : β} (e : w = v) (h : lt_ v f = some y) : f w = some y := by subst e; exact h
def lnk {β : Type} (q : Option Nat) (f : Nat → Option β) : Option β := match q with
  | some k => f k
  | none => none
theorem lnk_some {β : Type} {q : Option Nat} {f : Nat → Option β} {y : β} (h : lnk q f = some y) : ∃ k, q = some k ∧ f k = some y := by
  cases q with
  | some k => exact ⟨k, rfl, h⟩
  | none => exact absurd h (by simp [lnk])
def cal {α β : Type} (o : Option (St × α)) (f : St → α → Option β) : Option β := match o with
  | some (z, r) => f z r
  | none => none
theorem cal_some {α β : Type} {o : Option (St × α)} {f : St → α → Option β} {y : β} (h : cal o f = some y) : ∃ z r, o = some (z, r) ∧ f z r = some y := by
  cases o with
  | some q => exact ⟨q.1, q.2, rfl, h⟩
  | none => exact absurd h (by simp [cal])
theorem de_start {p : Program} {l : Launch} {e : Env} {R : Room} {s : State} {m : MethodId} {args : Array Value} {below : List Frame} {meth : Method} {c : Code} {A : Nat → Prop} {D : va_G} {cl : List vw_C} {ws : va_W} {cells slots : Nat} {Q : State → Prop} {g : JFrame} (hS : va_S A s.heap s.heap []) (hP : va_P D cl ws s.heap) (k : ∀ (H : Heap) (locs : List Loc), va_S A s.heap H locs → va_P D cl ws H → W p l e R s m args below meth c H locs cells slots Q g) : W p l e R s m args below meth c s.heap [] cells slots Q g := k _ _ hS hP
theorem de_loop {p : Program} {l : Launch} {e : Env} {R : Room} {s : State} {m : MethodId} {args : Array Value} {below : List Frame} {meth : Method} {c : Code} {cells slots : Nat} {Q : State → Prop} {h : Nat} {α β : Type} (I : α → Array Slot → Heap → List Loc → Prop) (fn : Nat → α → Option β) (y : β)
    (step : ∀ (f : Nat) (x : α) (ls : Array Slot) (H : Heap) (locs : List Loc), (∀ (x' : α) (ls' : Array Slot) (H' : Heap) (locs' : List Loc), I x' ls' H' locs' → fn f x' = some y → W p l e R s m args below meth c H' locs' cells slots Q (F0 m h ls' [])) → I x ls H locs → fn (f + 1) x = some y → W p l e R s m args below meth c H locs cells slots Q (F0 m h ls []))
    (zero : ∀ x, fn 0 x = none) : ∀ (f : Nat) (x : α) (ls : Array Slot) (H : Heap) (locs : List Loc), I x ls H locs → fn f x = some y → W p l e R s m args below meth c H locs cells slots Q (F0 m h ls []) := by
  intro f
  induction f with
  | zero => intro x ls H locs _ hf; rw [zero] at hf; exact absurd hf (by simp)
  | succ f ih => exact fun x ls H locs hI hf => step f x ls H locs ih hI hf
def okO (sh : Nat → Nat × Nat) (n k c : Nat) : Bool := decide (k < n) && (sh k).1 == c
theorem okO_at {sh : Nat → Nat × Nat} {n k c : Nat} (h : okO sh n k c = true) : k < n ∧ sh k = (c, (sh k).2) := by
  simp only [okO, Bool.and_eq_true, decide_eq_true_eq, beq_iff_eq] at h
  exact ⟨h.1, by rw [← h.2]⟩
def okA (sh : Nat → Nat × Nat) (n k c : Nat) (i : Int32) : Bool := okO sh n k c && (decide (0 ≤ i.toInt) && decide (i.toInt < (sh k).2))
theorem okA_at {sh : Nat → Nat × Nat} {n k c : Nat} {i : Int32} (h : okA sh n k c i = true) : k < n ∧ sh k = (c, (sh k).2) ∧ vp_in i (sh k).2 := by
  simp only [okA, Bool.and_eq_true, decide_eq_true_eq] at h
  exact ⟨(okO_at h.1).1, (okO_at h.1).2, vp_in_iff.mpr h.2⟩
theorem fl_q {a : Nat → Nat} {z : St} {ci k j k1 : Nat} (h : (tgs.getD ci [])[j]? = some 2) (e : z.2.2 k j = some k1) : (fl a z ci k)[j]? = some (.ref (a k1)) := by
  rw [fl_at h]
  unfold fv
  rw [e]
  rfl
theorem fl_len {a : Nat → Nat} {z : St} {ci k : Nat} : (fl a z ci k).length = (tgs.getD ci []).length := List.length_mapIdx
theorem ret_some {α : Type} {z z8 : St} {x r8 : α} (h : some (z, x) = some (z8, r8)) : z8 = z ∧ r8 = x := by
  cases h
  exact ⟨rfl, rfl⟩
theorem de_free {A : Nat → Prop} {ws : va_W} {H0 H : Heap} {locs : List Loc} (hD : va_D A ws) (hS : va_S A H0 H locs) (hA : ∀ q : Nat, H0.size ≤ q → A q) : ∀ q, va_A ws H.size q → A q := fun q h => Or.elim h (fun ⟨k, e, h⟩ => hD.2 k _ h) (fun h => hA q (Nat.le_trans hS.1 h))
theorem md_X7_placeCount_1 : (.fieldLink RX7 51 "ResourceLedger$State" "accountCount" "I" : Cond) ∈ wsX7_placeCount := List.mem_of_getElem? (i := 1) rfl
theorem iwd_X7_placeCount_X7 : ∀ w ∈ wsX70, w ∈ wsX7_placeCount := fun _ h => List.mem_cons_of_mem _ (List.mem_append_right _ h)
theorem md_X7_placeCount_2 : (.fieldLink RX7 55 "ResourceLedger$State" "moduleCount" "I" : Cond) ∈ wsX7_placeCount := List.mem_of_getElem? (i := 2) rfl
theorem md_X7_placeCount_3 : (.fieldLink RX7 58 "ResourceLedger$State" "resourceCount" "I" : Cond) ∈ wsX7_placeCount := List.mem_of_getElem? (i := 3) rfl
def fn_X7_placeCount (F : Nat) (sh : Nat → Nat × Nat) (n : Nat) (z : St) (h0 : Nat) : Option (St × Int32) := grd (okO sh n h0 7) (some (z, (((z.1 h0 3) + (z.1 h0 5)) + (z.1 h0 10))))
set_option maxHeartbeats 4000000 in
set_option maxRecDepth 100000 in
theorem de_X7_placeCount (l : Launch) (dC : Nat → ClassId) (dI : Nat → Nat → Nat) (cy : Nat → ClassId) (a : Nat → Nat) (sh : Nat → Nat × Nat) (n sz : Nat) (F : Nat) (z : St) (h0 : Nat) {z8 : St} {r8 : Int32} (hf : fn_X7_placeCount F sh n z h0 = some (z8, r8)) : Met l yX7_placeCount wsX7_placeCount ({ frames := 0, cells := 0, slots := 0, locals := 0 }) (va_Pc [.ref (a h0)] (fun U => U.heap.size = sz ∧ va_P (dC, dI) vwCl (Wd cy a sh n z) U.heap ∧ va_K (dC, dI) vwCl (TYS cy) U ∧ va_D (fun _ => True) (Wd cy a sh n z) ∧ NK U)) (va_Qi (fun (r9 : Int32) (u : Unit) => r9 = r8) (fun u t => va_P (dC, dI) vwCl (Wd cy a sh n z8) t.heap ∧ va_K (dC, dI) vwCl (TYS cy) t ∧ va_D (va_A (Wd cy a sh n z) sz) (Wd cy a sh n z8)) (va_A (Wd cy a sh n z) sz)) 0 0 (va_A (Wd cy a sh n z) sz) := by
  refine Met.ofW (cc := cX7_placeCount) (maxL := 1) (ret := (some .int)) (by decide) rfl ?_
  intro p e s m args below meth c s₁ B hml hv
  obtain ⟨rfl, hsz, hP, hK, hD0, hN⟩ := hv
  have hx := B.exec
  have hb := B.bytes
  have hr := B.returns
  have hts := atoms_spec (ws := wsX7_placeCount) B.pre
  have hown : s.vm.findClass RX7 = some m.cls := findClass_of_methodNamed B.named
  have hlocks := B.notSynchronized
  subst hsz
  have hD := hD0.self (sz := s.heap.size)
  clear hD0
  generalize hAe : va_A (Wd cy a sh n z) s.heap.size = A at hD ⊢
  have hA : ∀ q : Nat, s.heap.size ≤ q → A q := fun q h => by rw [← hAe]; exact Or.inr h
  clear hAe
  have hS : va_S A s.heap s.heap [] := va_S.rf
  have hl := lv_entry ([.ref (a h0)]) (n := 1) (Nat.le_of_ble_eq_true rfl)
  rw [lg_entry_eq]
  generalize (lg_sl ([.ref (a h0)]) ++ List.replicate (1 - (lg_sl ([.ref (a h0)])).length) Slot.unset).toArray = ls at hl ⊢
  replace hl : lv_has ls 1 [(0, .ref (a h0))] := hl
  unfold fn_X7_placeCount at hf
  refine de_start hS hP (fun H locs hS hP => ?_)
  refine lv_aload_n hx hb dX7_placeCount_0 rfl (lv_at hl 0 rfl) ?_
  obtain ⟨g_1, hf⟩ := grd_some hf
  obtain ⟨kg_1, sg_1⟩ := okO_at g_1
  refine va_get (D := (dC, dI)) (ci := 7) (v := .int (z.1 h0 3)) (C := RX7) (T := TX7) (N := 16) hx hb hts iwd_X7_placeCount_X7 hown hK hP h0 (Wd_ob kg_1 sg_1 (by decide)) rfl 3 (by decide) (hts _ md_X7_placeCount_1) (fun _ h9 => h9) (fl_at (t := 0) rfl) dX7_placeCount_1 ?_
  refine lv_aload_n hx hb dX7_placeCount_4 rfl (lv_at hl 0 rfl) ?_
  refine va_get (D := (dC, dI)) (ci := 7) (v := .int (z.1 h0 5)) (C := RX7) (T := TX7) (N := 16) hx hb hts iwd_X7_placeCount_X7 hown hK hP h0 (Wd_ob kg_1 sg_1 (by decide)) rfl 5 (by decide) (hts _ md_X7_placeCount_2) (fun _ h9 => h9) (fl_at (t := 0) rfl) dX7_placeCount_5 ?_
  refine lv_iadd hx hb dX7_placeCount_8 ?_
  refine lv_aload_n hx hb dX7_placeCount_9 rfl (lv_at hl 0 rfl) ?_
  refine va_get (D := (dC, dI)) (ci := 7) (v := .int (z.1 h0 10)) (C := RX7) (T := TX7) (N := 16) hx hb hts iwd_X7_placeCount_X7 hown hK hP h0 (Wd_ob kg_1 sg_1 (by decide)) rfl 10 (by decide) (hts _ md_X7_placeCount_3) (fun _ h9 => h9) (fl_at (t := 0) rfl) dX7_placeCount_10 ?_
  refine lv_iadd hx hb dX7_placeCount_13 ?_
  obtain ⟨h8, h9⟩ := ret_some hf
  rw [h8, h9]
  exact W.iret (v := (((z.1 h0 3) + (z.1 h0 5)) + (z.1 h0 10))) hx hb hr (fun t ht hW => ⟨⟨(((z.1 h0 3) + (z.1 h0 5)) + (z.1 h0 10)), (), rfl, rfl, by rw [ht]; exact hP, va_K.moved hW.alike hK, hD⟩, hS.F ht⟩) hS.2.2 dX7_placeCount_14

theorem md_X11_weave_1 : (.fieldLink RX11 150 "ResourceLedger" "weaveLength" "I" : Cond) ∈ wsX11_weave := List.mem_of_getElem? (i := 1) rfl
theorem iwd_X11_weave_X11 : ∀ w ∈ wsX110, w ∈ wsX11_weave := fun _ h => List.mem_cons_of_mem _ (List.mem_append_right _ h)
def fn_X11_weave (F : Nat) (sh : Nat → Nat × Nat) (n : Nat) (z : St) (h0 : Nat) (x0 : Int64) : Option (St × Int32) := grd (okO sh n h0 11) (if (((z.1 h0 2) + 16) : Int32) ≤ 4096 then lt_ (si z h0 2 ((z.1 h0 2) + 16)) (fun z_4 => some (z_4, (z_4.1 h0 2))) else some (z, (-3)))
set_option maxHeartbeats 4000000 in
set_option maxRecDepth 100000 in
theorem de_X11_weave (l : Launch) (dC : Nat → ClassId) (dI : Nat → Nat → Nat) (cy : Nat → ClassId) (a : Nat → Nat) (sh : Nat → Nat × Nat) (n sz : Nat) (F : Nat) (z : St) (h0 : Nat) (x0 : Int64) {z8 : St} {r8 : Int32} (hf : fn_X11_weave F sh n z h0 x0 = some (z8, r8)) : Met l yX11_weave wsX11_weave ({ frames := 0, cells := 0, slots := 0, locals := 0 }) (va_Pc [.ref (a h0), .long x0] (fun U => U.heap.size = sz ∧ va_P (dC, dI) vwCl (Wd cy a sh n z) U.heap ∧ va_K (dC, dI) vwCl (TYS cy) U ∧ va_D (fun _ => True) (Wd cy a sh n z) ∧ NK U)) (va_Qi (fun (r9 : Int32) (u : Unit) => r9 = r8) (fun u t => va_P (dC, dI) vwCl (Wd cy a sh n z8) t.heap ∧ va_K (dC, dI) vwCl (TYS cy) t ∧ va_D (va_A (Wd cy a sh n z) sz) (Wd cy a sh n z8)) (va_A (Wd cy a sh n z) sz)) 0 0 (va_A (Wd cy a sh n z) sz) := by
  refine Met.ofW (cc := cX11_weave) (maxL := 3) (ret := (some .int)) (by decide) rfl ?_
  intro p e s m args below meth c s₁ B hml hv
  obtain ⟨rfl, hsz, hP, hK, hD0, hN⟩ := hv
  have hx := B.exec
  have hb := B.bytes
  have hr := B.returns
  have hts := atoms_spec (ws := wsX11_weave) B.pre
  have hown : s.vm.findClass RX11 = some m.cls := findClass_of_methodNamed B.named
  have hlocks := B.notSynchronized
  subst hsz
  have hD := hD0.self (sz := s.heap.size)
  clear hD0
  generalize hAe : va_A (Wd cy a sh n z) s.heap.size = A at hD ⊢
  have hA : ∀ q : Nat, s.heap.size ≤ q → A q := fun q h => by rw [← hAe]; exact Or.inr h
  clear hAe
  have hS : va_S A s.heap s.heap [] := va_S.rf
  have hl := lv_entry ([.ref (a h0), .long x0]) (n := 3) (Nat.le_of_ble_eq_true rfl)
  rw [lg_entry_eq]
  generalize (lg_sl ([.ref (a h0), .long x0]) ++ List.replicate (3 - (lg_sl ([.ref (a h0), .long x0])).length) Slot.unset).toArray = ls at hl ⊢
  replace hl : lv_has ls 3 [(0, .ref (a h0)), (1, .long x0)] := hl
  unfold fn_X11_weave at hf
  refine de_start hS hP (fun H locs hS hP => ?_)
  refine lv_aload_n hx hb dX11_weave_0 rfl (lv_at hl 0 rfl) ?_
  obtain ⟨g_1, hf⟩ := grd_some hf
  obtain ⟨kg_1, sg_1⟩ := okO_at g_1
  refine va_get (D := (dC, dI)) (ci := 11) (v := .int (z.1 h0 2)) (C := RX11) (T := TX11) (N := 13) hx hb hts iwd_X11_weave_X11 hown hK hP h0 (Wd_ob kg_1 sg_1 (by decide)) rfl 2 (by decide) (hts _ md_X11_weave_1) (fun _ h9 => h9) (fl_at (t := 0) rfl) dX11_weave_1 ?_
  refine lv_bipush (v := 16) hx hb dX11_weave_4 (by decide) ?_
  refine lv_iadd hx hb dX11_weave_6 ?_
  refine lv_sipush (v := 4096) hx hb dX11_weave_7 (by decide) ?_
  refine lv_icmp_le (tgt := 16) hx hb dX11_weave_10 (by decide) (fun c_2 => ?_) (fun c_2 => ?_)
  · skip
    rw [if_pos c_2] at hf
    refine lv_aload_n hx hb dX11_weave_16 rfl (lv_at hl 0 rfl) ?_
    refine lv_dup hx hb dX11_weave_17 rfl ?_
    refine va_get (D := (dC, dI)) (ci := 11) (v := .int (z.1 h0 2)) (C := RX11) (T := TX11) (N := 13) hx hb hts iwd_X11_weave_X11 hown hK hP h0 (Wd_ob kg_1 sg_1 (by decide)) rfl 2 (by decide) (hts _ md_X11_weave_1) (fun _ h9 => h9) (fl_at (t := 0) rfl) dX11_weave_18 ?_
    refine lv_bipush (v := 16) hx hb dX11_weave_21 (by decide) ?_
    refine lv_iadd hx hb dX11_weave_23 ?_
    refine va_put (D := (dC, dI)) (ci := 11) (v := .int ((z.1 h0 2) + 16)) (ty := .int) (C := RX11) (T := TX11) (N := 13) hx hb hts iwd_X11_weave_X11 tyX11 tyX11_ok nmX11 hown hK hP hD hS h0 (Wd_ob kg_1 sg_1 (by decide)) rfl 2 (by decide) (hts _ md_X11_weave_1) (fun _ h9 => h9) rfl (by decide +kernel) rfl rfl (by rw [fl_len]; decide) dX11_weave_24 (fun H_3 locs hP2 hD2 hS2 => ?_)
    rw [Wd_si sg_1 (by decide) rfl] at hP2 hD2
    obtain ⟨z_4, ez_4⟩ : ∃ w, w = si z h0 2 ((z.1 h0 2) + 16) := ⟨_, rfl⟩
    rw [← ez_4] at hP2 hD2
    replace hf := lt_at ez_4 hf
    clear ez_4
    replace hP := hP2
    replace hD := hD2
    replace hS := hS2
    clear hP2 hD2 hS2
    refine lv_aload_n hx hb dX11_weave_27 rfl (lv_at hl 0 rfl) ?_
    refine va_get (D := (dC, dI)) (ci := 11) (v := .int (z_4.1 h0 2)) (C := RX11) (T := TX11) (N := 13) hx hb hts iwd_X11_weave_X11 hown hK hP h0 (Wd_ob kg_1 sg_1 (by decide)) rfl 2 (by decide) (hts _ md_X11_weave_1) (fun _ h9 => h9) (fl_at (t := 0) rfl) dX11_weave_28 ?_
    obtain ⟨h8, h9⟩ := ret_some hf
    rw [h8, h9]
    exact W.iret (v := (z_4.1 h0 2)) hx hb hr (fun t ht hW => ⟨⟨(z_4.1 h0 2), (), rfl, rfl, by rw [ht]; exact hP, va_K.moved hW.alike hK, hD⟩, hS.F ht⟩) hS.2.2 dX11_weave_31
  · skip
    rw [if_neg c_2] at hf
    refine lv_bipush (v := (-3)) hx hb dX11_weave_13 (by decide) ?_
    obtain ⟨h8, h9⟩ := ret_some hf
    rw [h8, h9]
    exact W.iret (v := (-3)) hx hb hr (fun t ht hW => ⟨⟨(-3), (), rfl, rfl, by rw [ht]; exact hP, va_K.moved hW.alike hK, hD⟩, hS.F ht⟩) hS.2.2 dX11_weave_15

theorem md_X11_begin_1 : (.fieldLink RX11 112 "ResourceLedger" "blockLength" "I" : Cond) ∈ wsX11_begin := List.mem_of_getElem? (i := 1) rfl
theorem iwd_X11_begin_X11 : ∀ w ∈ wsX110, w ∈ wsX11_begin := fun _ h => List.mem_cons_of_mem _ (List.mem_append_right _ h)
theorem md_X11_begin_2 : (.fieldLink RX11 115 "ResourceLedger" "doneLength" "I" : Cond) ∈ wsX11_begin := List.mem_of_getElem? (i := 2) rfl
def fn_X11_begin (F : Nat) (sh : Nat → Nat × Nat) (n : Nat) (z : St) (h0 : Nat) : Option (St × Int32) := grd (okO sh n h0 11) (lt_ (z.1 h0 4) (fun v_2 => lt_ (si z h0 4 0) (fun z_4 => lt_ (si z_4 h0 5 0) (fun z_6 => some (z_6, v_2)))))
set_option maxHeartbeats 4000000 in
set_option maxRecDepth 100000 in
theorem de_X11_begin (l : Launch) (dC : Nat → ClassId) (dI : Nat → Nat → Nat) (cy : Nat → ClassId) (a : Nat → Nat) (sh : Nat → Nat × Nat) (n sz : Nat) (F : Nat) (z : St) (h0 : Nat) {z8 : St} {r8 : Int32} (hf : fn_X11_begin F sh n z h0 = some (z8, r8)) : Met l yX11_begin wsX11_begin ({ frames := 0, cells := 0, slots := 0, locals := 0 }) (va_Pc [.ref (a h0)] (fun U => U.heap.size = sz ∧ va_P (dC, dI) vwCl (Wd cy a sh n z) U.heap ∧ va_K (dC, dI) vwCl (TYS cy) U ∧ va_D (fun _ => True) (Wd cy a sh n z) ∧ NK U)) (va_Qi (fun (r9 : Int32) (u : Unit) => r9 = r8) (fun u t => va_P (dC, dI) vwCl (Wd cy a sh n z8) t.heap ∧ va_K (dC, dI) vwCl (TYS cy) t ∧ va_D (va_A (Wd cy a sh n z) sz) (Wd cy a sh n z8)) (va_A (Wd cy a sh n z) sz)) 0 0 (va_A (Wd cy a sh n z) sz) := by
  refine Met.ofW (cc := cX11_begin) (maxL := 2) (ret := (some .int)) (by decide) rfl ?_
  intro p e s m args below meth c s₁ B hml hv
  obtain ⟨rfl, hsz, hP, hK, hD0, hN⟩ := hv
  have hx := B.exec
  have hb := B.bytes
  have hr := B.returns
  have hts := atoms_spec (ws := wsX11_begin) B.pre
  have hown : s.vm.findClass RX11 = some m.cls := findClass_of_methodNamed B.named
  have hlocks := B.notSynchronized
  subst hsz
  have hD := hD0.self (sz := s.heap.size)
  clear hD0
  generalize hAe : va_A (Wd cy a sh n z) s.heap.size = A at hD ⊢
  have hA : ∀ q : Nat, s.heap.size ≤ q → A q := fun q h => by rw [← hAe]; exact Or.inr h
  clear hAe
  have hS : va_S A s.heap s.heap [] := va_S.rf
  have hl := lv_entry ([.ref (a h0)]) (n := 2) (Nat.le_of_ble_eq_true rfl)
  rw [lg_entry_eq]
  generalize (lg_sl ([.ref (a h0)]) ++ List.replicate (2 - (lg_sl ([.ref (a h0)])).length) Slot.unset).toArray = ls at hl ⊢
  replace hl : lv_has ls 2 [(0, .ref (a h0))] := hl
  unfold fn_X11_begin at hf
  refine de_start hS hP (fun H locs hS hP => ?_)
  refine lv_aload_n hx hb dX11_begin_0 rfl (lv_at hl 0 rfl) ?_
  obtain ⟨g_1, hf⟩ := grd_some hf
  obtain ⟨kg_1, sg_1⟩ := okO_at g_1
  refine va_get (D := (dC, dI)) (ci := 11) (v := .int (z.1 h0 4)) (C := RX11) (T := TX11) (N := 13) hx hb hts iwd_X11_begin_X11 hown hK hP h0 (Wd_ob kg_1 sg_1 (by decide)) rfl 4 (by decide) (hts _ md_X11_begin_1) (fun _ h9 => h9) (fl_at (t := 0) rfl) dX11_begin_1 ?_
  refine lv_topi (fun v_2 ev_2 => ?_)
  replace hf := lt_at ev_2 hf
  clear ev_2
  refine lv_istore_n (lv' := [(1, .int v_2), (0, .ref (a h0))]) hx hb dX11_begin_4 rfl hl (by decide) rfl (fun ls hl2 => ?_)
  replace hl := hl2
  clear hl2
  refine lv_aload_n hx hb dX11_begin_5 rfl (lv_at hl 1 rfl) ?_
  refine lv_iconst (v := 0) hx hb dX11_begin_6 (by decide) ?_
  refine va_put (D := (dC, dI)) (ci := 11) (v := .int 0) (ty := .int) (C := RX11) (T := TX11) (N := 13) hx hb hts iwd_X11_begin_X11 tyX11 tyX11_ok nmX11 hown hK hP hD hS h0 (Wd_ob kg_1 sg_1 (by decide)) rfl 4 (by decide) (hts _ md_X11_begin_1) (fun _ h9 => h9) rfl (by decide +kernel) rfl rfl (by rw [fl_len]; decide) dX11_begin_7 (fun H_3 locs hP2 hD2 hS2 => ?_)
  rw [Wd_si sg_1 (by decide) rfl] at hP2 hD2
  obtain ⟨z_4, ez_4⟩ : ∃ w, w = si z h0 4 0 := ⟨_, rfl⟩
  rw [← ez_4] at hP2 hD2
  replace hf := lt_at ez_4 hf
  clear ez_4
  replace hP := hP2
  replace hD := hD2
  replace hS := hS2
  clear hP2 hD2 hS2
  refine lv_aload_n hx hb dX11_begin_10 rfl (lv_at hl 1 rfl) ?_
  refine lv_iconst (v := 0) hx hb dX11_begin_11 (by decide) ?_
  refine va_put (D := (dC, dI)) (ci := 11) (v := .int 0) (ty := .int) (C := RX11) (T := TX11) (N := 13) hx hb hts iwd_X11_begin_X11 tyX11 tyX11_ok nmX11 hown hK hP hD hS h0 (Wd_ob kg_1 sg_1 (by decide)) rfl 5 (by decide) (hts _ md_X11_begin_2) (fun _ h9 => h9) rfl (by decide +kernel) rfl rfl (by rw [fl_len]; decide) dX11_begin_12 (fun H_5 locs hP2 hD2 hS2 => ?_)
  rw [Wd_si sg_1 (by decide) rfl] at hP2 hD2
  obtain ⟨z_6, ez_6⟩ : ∃ w, w = si z_4 h0 5 0 := ⟨_, rfl⟩
  rw [← ez_6] at hP2 hD2
  replace hf := lt_at ez_6 hf
  clear ez_6
  replace hP := hP2
  replace hD := hD2
  replace hS := hS2
  clear hP2 hD2 hS2
  refine lv_iload_n hx hb dX11_begin_15 rfl (lv_at hl 0 rfl) ?_
  obtain ⟨h8, h9⟩ := ret_some hf
  rw [h8, h9]
  exact W.iret (v := v_2) hx hb hr (fun t ht hW => ⟨⟨v_2, (), rfl, rfl, by rw [ht]; exact hP, va_K.moved hW.alike hK, hD⟩, hS.F ht⟩) hS.2.2 dX11_begin_16

theorem md_X4_slipCount_1 : (.fieldLink RX4 71 "ResourceLedger$Machine" "slips" "I" : Cond) ∈ wsX4_slipCount := List.mem_of_getElem? (i := 1) rfl
theorem iwd_X4_slipCount_X4 : ∀ w ∈ wsX40, w ∈ wsX4_slipCount := fun _ h => List.mem_cons_of_mem _ (List.mem_append_left _ (List.mem_append_right _ h))
theorem md_X4_slipCount_2 : (.fieldLink RX4 12 "ResourceLedger$Machine" "heap" "LResourceLedger$Heap;" : Cond) ∈ wsX4_slipCount := List.mem_of_getElem? (i := 2) rfl
theorem md_X4_slipCount_3 : (.fieldLink RX4 75 "ResourceLedger$Heap" "slips" "I" : Cond) ∈ wsX4_slipCount := List.mem_of_getElem? (i := 3) rfl
theorem iwd_X4_slipCount_X1 : ∀ w ∈ wsX10, w ∈ wsX4_slipCount := fun _ h => List.mem_cons_of_mem _ (List.mem_append_right _ h)
def fn_X4_slipCount (F : Nat) (sh : Nat → Nat × Nat) (n : Nat) (z : St) (h0 : Nat) : Option (St × Int32) := grd (okO sh n h0 4) (lnk (z.2.2 h0 1) (fun k_2 => grd (okO sh n k_2 1) (some (z, ((z.1 h0 18) + (z.1 k_2 6))))))
set_option maxHeartbeats 4000000 in
set_option maxRecDepth 100000 in
theorem de_X4_slipCount (l : Launch) (dC : Nat → ClassId) (dI : Nat → Nat → Nat) (cy : Nat → ClassId) (a : Nat → Nat) (sh : Nat → Nat × Nat) (n sz : Nat) (F : Nat) (z : St) (h0 : Nat) {z8 : St} {r8 : Int32} (hf : fn_X4_slipCount F sh n z h0 = some (z8, r8)) : Met l yX4_slipCount wsX4_slipCount ({ frames := 0, cells := 0, slots := 0, locals := 0 }) (va_Pc [.ref (a h0)] (fun U => U.heap.size = sz ∧ va_P (dC, dI) vwCl (Wd cy a sh n z) U.heap ∧ va_K (dC, dI) vwCl (TYS cy) U ∧ va_D (fun _ => True) (Wd cy a sh n z) ∧ NK U)) (va_Qi (fun (r9 : Int32) (u : Unit) => r9 = r8) (fun u t => va_P (dC, dI) vwCl (Wd cy a sh n z8) t.heap ∧ va_K (dC, dI) vwCl (TYS cy) t ∧ va_D (va_A (Wd cy a sh n z) sz) (Wd cy a sh n z8)) (va_A (Wd cy a sh n z) sz)) 0 0 (va_A (Wd cy a sh n z) sz) := by
  refine Met.ofW (cc := cX4_slipCount) (maxL := 1) (ret := (some .int)) (by decide) rfl ?_
  intro p e s m args below meth c s₁ B hml hv
  obtain ⟨rfl, hsz, hP, hK, hD0, hN⟩ := hv
  have hx := B.exec
  have hb := B.bytes
  have hr := B.returns
  have hts := atoms_spec (ws := wsX4_slipCount) B.pre
  have hown : s.vm.findClass RX4 = some m.cls := findClass_of_methodNamed B.named
  have hlocks := B.notSynchronized
  subst hsz
  have hD := hD0.self (sz := s.heap.size)
  clear hD0
  generalize hAe : va_A (Wd cy a sh n z) s.heap.size = A at hD ⊢
  have hA : ∀ q : Nat, s.heap.size ≤ q → A q := fun q h => by rw [← hAe]; exact Or.inr h
  clear hAe
  have hS : va_S A s.heap s.heap [] := va_S.rf
  have hl := lv_entry ([.ref (a h0)]) (n := 1) (Nat.le_of_ble_eq_true rfl)
  rw [lg_entry_eq]
  generalize (lg_sl ([.ref (a h0)]) ++ List.replicate (1 - (lg_sl ([.ref (a h0)])).length) Slot.unset).toArray = ls at hl ⊢
  replace hl : lv_has ls 1 [(0, .ref (a h0))] := hl
  unfold fn_X4_slipCount at hf
  refine de_start hS hP (fun H locs hS hP => ?_)
  refine lv_aload_n hx hb dX4_slipCount_0 rfl (lv_at hl 0 rfl) ?_
  obtain ⟨g_1, hf⟩ := grd_some hf
  obtain ⟨kg_1, sg_1⟩ := okO_at g_1
  refine va_get (D := (dC, dI)) (ci := 4) (v := .int (z.1 h0 18)) (C := RX4) (T := TX4) (N := 19) hx hb hts iwd_X4_slipCount_X4 hown hK hP h0 (Wd_ob kg_1 sg_1 (by decide)) rfl 18 (by decide) (hts _ md_X4_slipCount_1) (fun _ h9 => h9) (fl_at (t := 0) rfl) dX4_slipCount_1 ?_
  refine lv_aload_n hx hb dX4_slipCount_4 rfl (lv_at hl 0 rfl) ?_
  obtain ⟨k_2, ek_2, hf⟩ := lnk_some hf
  refine va_get (D := (dC, dI)) (ci := 4) (v := .ref (a k_2)) (C := RX4) (T := TX4) (N := 19) hx hb hts iwd_X4_slipCount_X4 hown hK hP h0 (Wd_ob kg_1 sg_1 (by decide)) rfl 1 (by decide) (hts _ md_X4_slipCount_2) (fun _ h9 => h9) (fl_q rfl ek_2) dX4_slipCount_5 ?_
  obtain ⟨g_3, hf⟩ := grd_some hf
  obtain ⟨kg_3, sg_3⟩ := okO_at g_3
  refine va_get (D := (dC, dI)) (ci := 1) (v := .int (z.1 k_2 6)) (C := RX1) (T := TX1) (N := 7) hx hb hts iwd_X4_slipCount_X1 hown hK hP k_2 (Wd_ob kg_3 sg_3 (by decide)) rfl 6 (by decide) (hts _ md_X4_slipCount_3) (fun _ h9 => h9) (fl_at (t := 0) rfl) dX4_slipCount_8 ?_
  refine lv_iadd hx hb dX4_slipCount_11 ?_
  obtain ⟨h8, h9⟩ := ret_some hf
  rw [h8, h9]
  exact W.iret (v := ((z.1 h0 18) + (z.1 k_2 6))) hx hb hr (fun t ht hW => ⟨⟨((z.1 h0 18) + (z.1 k_2 6)), (), rfl, rfl, by rw [ht]; exact hP, va_K.moved hW.alike hK, hD⟩, hS.F ht⟩) hS.2.2 dX4_slipCount_12

theorem md_X11_slips_1 : (.fieldLink RX11 55 "ResourceLedger" "machine" "LResourceLedger$Machine;" : Cond) ∈ wsX11_slips := List.mem_of_getElem? (i := 1) rfl
theorem iwd_X11_slips_X11 : ∀ w ∈ wsX110, w ∈ wsX11_slips := fun _ h => List.mem_cons_of_mem _ (List.mem_append_left _ (List.mem_append_left _ (List.mem_append_right _ h)))
def fn_X11_slips (F : Nat) (sh : Nat → Nat × Nat) (n : Nat) (z : St) (h0 : Nat) : Option (St × Int32) := grd (okO sh n h0 11) (lnk (z.2.2 h0 9) (fun k_2 => grd (okO sh n k_2 4) (cal (fn_X4_slipCount F sh n z k_2) (fun z_3 r_4 => some (z_3, r_4)))))
set_option maxHeartbeats 4000000 in
set_option maxRecDepth 100000 in
theorem de_X11_slips (l : Launch) (dC : Nat → ClassId) (dI : Nat → Nat → Nat) (cy : Nat → ClassId) (a : Nat → Nat) (sh : Nat → Nat × Nat) (n sz : Nat) (F : Nat) (z : St) (h0 : Nat) {z8 : St} {r8 : Int32} (hf : fn_X11_slips F sh n z h0 = some (z8, r8)) : Met l yX11_slips wsX11_slips ({ frames := 1, cells := 0, slots := 0, locals := 20 }) (va_Pc [.ref (a h0)] (fun U => U.heap.size = sz ∧ va_P (dC, dI) vwCl (Wd cy a sh n z) U.heap ∧ va_K (dC, dI) vwCl (TYS cy) U ∧ va_D (fun _ => True) (Wd cy a sh n z) ∧ NK U)) (va_Qi (fun (r9 : Int32) (u : Unit) => r9 = r8) (fun u t => va_P (dC, dI) vwCl (Wd cy a sh n z8) t.heap ∧ va_K (dC, dI) vwCl (TYS cy) t ∧ va_D (va_A (Wd cy a sh n z) sz) (Wd cy a sh n z8)) (va_A (Wd cy a sh n z) sz)) 0 0 (va_A (Wd cy a sh n z) sz) := by
  refine Met.ofW (cc := cX11_slips) (maxL := 1) (ret := (some .int)) (by decide) rfl ?_
  intro p e s m args below meth c s₁ B hml hv
  obtain ⟨rfl, hsz, hP, hK, hD0, hN⟩ := hv
  have hx := B.exec
  have hb := B.bytes
  have hr := B.returns
  have hts := atoms_spec (ws := wsX11_slips) B.pre
  have hown : s.vm.findClass RX11 = some m.cls := findClass_of_methodNamed B.named
  have hlocks := B.notSynchronized
  subst hsz
  have hD := hD0.self (sz := s.heap.size)
  clear hD0
  generalize hAe : va_A (Wd cy a sh n z) s.heap.size = A at hD ⊢
  have hA : ∀ q : Nat, s.heap.size ≤ q → A q := fun q h => by rw [← hAe]; exact Or.inr h
  clear hAe
  have hS : va_S A s.heap s.heap [] := va_S.rf
  have hl := lv_entry ([.ref (a h0)]) (n := 1) (Nat.le_of_ble_eq_true rfl)
  rw [lg_entry_eq]
  generalize (lg_sl ([.ref (a h0)]) ++ List.replicate (1 - (lg_sl ([.ref (a h0)])).length) Slot.unset).toArray = ls at hl ⊢
  replace hl : lv_has ls 1 [(0, .ref (a h0))] := hl
  unfold fn_X11_slips at hf
  refine de_start hS hP (fun H locs hS hP => ?_)
  refine lv_aload_n hx hb dX11_slips_0 rfl (lv_at hl 0 rfl) ?_
  obtain ⟨g_1, hf⟩ := grd_some hf
  obtain ⟨kg_1, sg_1⟩ := okO_at g_1
  obtain ⟨k_2, ek_2, hf⟩ := lnk_some hf
  refine va_get (D := (dC, dI)) (ci := 11) (v := .ref (a k_2)) (C := RX11) (T := TX11) (N := 13) hx hb hts iwd_X11_slips_X11 hown hK hP h0 (Wd_ob kg_1 sg_1 (by decide)) rfl 9 (by decide) (hts _ md_X11_slips_1) (fun _ h9 => h9) (fl_q rfl ek_2) dX11_slips_1 ?_
  obtain ⟨g_5, hf⟩ := grd_some hf
  obtain ⟨kg_5, sg_5⟩ := okO_at g_5
  obtain ⟨z_3, r_4, hfc, hf⟩ := cal_some hf
  have hFc := de_free hD hS hA
  refine va_calli (va_runV (As := []) (rest := []) ⟨hx, hb, hml, hown, hts⟩ (de_X4_slipCount l dC dI cy a sh n H.size F z k_2 hfc) (cwV 0 hts gX11_slips_X4_slipCount rfl rfl rfl (by decide +kernel) ⟨Nat.le_of_ble_eq_true rfl, Nat.le_of_ble_eq_true rfl⟩) ⟨fun a U g mk q => by obtain ⟨q0, q1, qP, qK, qD, qN⟩ := q; exact ⟨q0, q1, qP, va_K.moved (u := U) (U := U.calling g mk a) (Vm.Alike.refl U.vm) qK, qD, qN.same rfl⟩, va_recv hK hP (ci := 4) (q0 := k_2) rfl (Wd_ob kg_5 sg_5 (by decide)), fun U hU hW => ⟨rfl, by rw [hU], by rw [hU]; exact hP, va_K.moved hW.alike hK, hD.weaken (fun _ _ _ _ => trivial), hN.warm hW⟩⟩ rfl rfl hl.1 rfl (lv_room (Nat.le_of_ble_eq_true rfl)) dX11_slips_4 ⟨Nat.le_of_ble_eq_true rfl, Nat.le_of_ble_eq_true rfl⟩) hS (fun q _ h => hFc q h) hFc (fun rr u t H_6 locs ht hvm hw hB hz1 hk1 hS2 => ?_)
  rw [hw]
  clear hw
  obtain ⟨hP1, -, hD1⟩ := hB
  rw [ht] at hP1
  replace hD := hD1.weaken (fun _ _ _ h => hFc _ h)
  replace hP := hP1
  replace hS := hS2
  clear hP1 hD1 hS2 hFc hfc hz1 hk1 hvm ht
  obtain ⟨h8, h9⟩ := ret_some hf
  rw [h8, h9]
  exact W.iret (v := r_4) hx hb hr (fun t ht hW => ⟨⟨r_4, (), rfl, rfl, by rw [ht]; exact hP, va_K.moved hW.alike hK, hD⟩, hS.F ht⟩) hS.2.2 dX11_slips_7

theorem md_X18_byteOf_1 : (.fieldLink RX18 684 "ResourceLedgerModel" "shownSize" "I" : Cond) ∈ wsX18_byteOf := List.mem_of_getElem? (i := 1) rfl
theorem iwd_X18_byteOf_X18 : ∀ w ∈ wsX180, w ∈ wsX18_byteOf := fun _ h => List.mem_cons_of_mem _ (List.mem_append_right _ h)
theorem md_X18_byteOf_2 : (.fieldLink RX18 599 "ResourceLedgerModel" "shown" "[B" : Cond) ∈ wsX18_byteOf := List.mem_of_getElem? (i := 2) rfl
def fn_X18_byteOf (F : Nat) (sh : Nat → Nat × Nat) (n : Nat) (z : St) (h0 : Nat) (x0 : Int32) : Option (St × Int32) := if (x0 : Int32) < 0 then some (z, (-1)) else grd (okO sh n h0 18) (if ((z.1 h0 75) : Int32) ≤ x0 then some (z, (-1)) else lnk (z.2.2 h0 74) (fun k_4 => grd (okA sh n k_4 100 x0) (some (z, ((z.1 k_4 x0.toNatClampNeg) &&& 255)))))
set_option maxHeartbeats 4000000 in
set_option maxRecDepth 100000 in
theorem de_X18_byteOf (l : Launch) (dC : Nat → ClassId) (dI : Nat → Nat → Nat) (cy : Nat → ClassId) (a : Nat → Nat) (sh : Nat → Nat × Nat) (n sz : Nat) (F : Nat) (z : St) (h0 : Nat) (x0 : Int32) {z8 : St} {r8 : Int32} (hf : fn_X18_byteOf F sh n z h0 x0 = some (z8, r8)) : Met l yX18_byteOf wsX18_byteOf ({ frames := 0, cells := 0, slots := 0, locals := 0 }) (va_Pc [.ref (a h0), .int x0] (fun U => U.heap.size = sz ∧ va_P (dC, dI) vwCl (Wd cy a sh n z) U.heap ∧ va_K (dC, dI) vwCl (TYS cy) U ∧ va_D (fun _ => True) (Wd cy a sh n z) ∧ NK U)) (va_Qi (fun (r9 : Int32) (u : Unit) => r9 = r8) (fun u t => va_P (dC, dI) vwCl (Wd cy a sh n z8) t.heap ∧ va_K (dC, dI) vwCl (TYS cy) t ∧ va_D (va_A (Wd cy a sh n z) sz) (Wd cy a sh n z8)) (va_A (Wd cy a sh n z) sz)) 0 0 (va_A (Wd cy a sh n z) sz) := by
  refine Met.ofW (cc := cX18_byteOf) (maxL := 2) (ret := (some .int)) (by decide) rfl ?_
  intro p e s m args below meth c s₁ B hml hv
  obtain ⟨rfl, hsz, hP, hK, hD0, hN⟩ := hv
  have hx := B.exec
  have hb := B.bytes
  have hr := B.returns
  have hts := atoms_spec (ws := wsX18_byteOf) B.pre
  have hown : s.vm.findClass RX18 = some m.cls := findClass_of_methodNamed B.named
  have hlocks := B.notSynchronized
  subst hsz
  have hD := hD0.self (sz := s.heap.size)
  clear hD0
  generalize hAe : va_A (Wd cy a sh n z) s.heap.size = A at hD ⊢
  have hA : ∀ q : Nat, s.heap.size ≤ q → A q := fun q h => by rw [← hAe]; exact Or.inr h
  clear hAe
  have hS : va_S A s.heap s.heap [] := va_S.rf
  have hl := lv_entry ([.ref (a h0), .int x0]) (n := 2) (Nat.le_of_ble_eq_true rfl)
  rw [lg_entry_eq]
  generalize (lg_sl ([.ref (a h0), .int x0]) ++ List.replicate (2 - (lg_sl ([.ref (a h0), .int x0])).length) Slot.unset).toArray = ls at hl ⊢
  replace hl : lv_has ls 2 [(0, .ref (a h0)), (1, .int x0)] := hl
  unfold fn_X18_byteOf at hf
  refine de_start hS hP (fun H locs hS hP => ?_)
  refine lv_iload_n hx hb dX18_byteOf_0 rfl (lv_at hl 1 rfl) ?_
  refine lv_if_lt (tgt := 25) hx hb dX18_byteOf_1 (by decide) (fun c_1 => ?_) (fun c_1 => ?_)
  · skip
    rw [if_pos c_1] at hf
    refine lv_iconst (v := (-1)) hx hb dX18_byteOf_25 (by decide) ?_
    obtain ⟨h8, h9⟩ := ret_some hf
    rw [h8, h9]
    exact W.iret (v := (-1)) hx hb hr (fun t ht hW => ⟨⟨(-1), (), rfl, rfl, by rw [ht]; exact hP, va_K.moved hW.alike hK, hD⟩, hS.F ht⟩) hS.2.2 dX18_byteOf_26
  · skip
    rw [if_neg c_1] at hf
    refine lv_iload_n hx hb dX18_byteOf_4 rfl (lv_at hl 1 rfl) ?_
    refine lv_aload_n hx hb dX18_byteOf_5 rfl (lv_at hl 0 rfl) ?_
    obtain ⟨g_2, hf⟩ := grd_some hf
    obtain ⟨kg_2, sg_2⟩ := okO_at g_2
    refine va_get (D := (dC, dI)) (ci := 18) (v := .int (z.1 h0 75)) (C := RX18) (T := TX18) (N := 78) hx hb hts iwd_X18_byteOf_X18 hown hK hP h0 (Wd_ob kg_2 sg_2 (by decide)) rfl 75 (by decide) (hts _ md_X18_byteOf_1) (fun _ h9 => h9) (fl_at (t := 0) rfl) dX18_byteOf_6 ?_
    refine lv_icmp_ge (tgt := 25) hx hb dX18_byteOf_9 (by decide) (fun c_3 => ?_) (fun c_3 => ?_)
    · skip
      rw [if_pos c_3] at hf
      refine lv_iconst (v := (-1)) hx hb dX18_byteOf_25 (by decide) ?_
      obtain ⟨h8, h9⟩ := ret_some hf
      rw [h8, h9]
      exact W.iret (v := (-1)) hx hb hr (fun t ht hW => ⟨⟨(-1), (), rfl, rfl, by rw [ht]; exact hP, va_K.moved hW.alike hK, hD⟩, hS.F ht⟩) hS.2.2 dX18_byteOf_26
    · skip
      rw [if_neg c_3] at hf
      refine lv_aload_n hx hb dX18_byteOf_12 rfl (lv_at hl 0 rfl) ?_
      obtain ⟨k_4, ek_4, hf⟩ := lnk_some hf
      refine va_get (D := (dC, dI)) (ci := 18) (v := .ref (a k_4)) (C := RX18) (T := TX18) (N := 78) hx hb hts iwd_X18_byteOf_X18 hown hK hP h0 (Wd_ob kg_2 sg_2 (by decide)) rfl 74 (by decide) (hts _ md_X18_byteOf_2) (fun _ h9 => h9) (fl_q rfl ek_4) dX18_byteOf_13 ?_
      refine lv_iload_n hx hb dX18_byteOf_16 rfl (lv_at hl 1 rfl) ?_
      obtain ⟨g_5, hf⟩ := grd_some hf
      obtain ⟨kg_5, sg_5, ig_5⟩ := okA_at g_5
      refine va_bald hx hb hK hP k_4 0 (Wd_ab kg_5 sg_5) rfl ig_5 dX18_byteOf_17 ?_
      refine lv_sipush (v := 255) hx hb dX18_byteOf_18 (by decide) ?_
      refine lv_iand hx hb dX18_byteOf_21 ?_
      refine lv_goto (tgt := 26) hx hb dX18_byteOf_22 (by decide) ?_
      obtain ⟨h8, h9⟩ := ret_some hf
      rw [h8, h9]
      exact W.iret (v := ((z.1 k_4 x0.toNatClampNeg) &&& 255)) hx hb hr (fun t ht hW => ⟨⟨((z.1 k_4 x0.toNatClampNeg) &&& 255), (), rfl, rfl, by rw [ht]; exact hP, va_K.moved hW.alike hK, hD⟩, hS.F ht⟩) hS.2.2 dX18_byteOf_26

theorem md_X7_findAccount_1 : (.fieldLink RX7 51 "ResourceLedger$State" "accountCount" "I" : Cond) ∈ wsX7_findAccount := List.mem_of_getElem? (i := 1) rfl
theorem iwd_X7_findAccount_X7 : ∀ w ∈ wsX70, w ∈ wsX7_findAccount := fun _ h => List.mem_cons_of_mem _ (List.mem_append_right _ h)
theorem md_X7_findAccount_2 : (.fieldLink RX7 9 "ResourceLedger$State" "accountAddress" "[J" : Cond) ∈ wsX7_findAccount := List.mem_of_getElem? (i := 2) rfl
def fn_X7_findAccount_L2 (F : Nat) (sh : Nat → Nat × Nat) (n : Nat) (h0 : Nat) (x0 : Int64) : Nat → St → Int32 → Option (St × Int32)
  | 0, _, _ => none
  | f_3 + 1, z_2, p_1 => grd (okO sh n h0 7) (if ((z_2.1 h0 3) : Int32) ≤ p_1 then some (z_2, (-1)) else lnk (z_2.2.2 h0 0) (fun k_6 => grd (okA sh n k_6 102 p_1) (if ((z_2.2.1 k_6 p_1.toNatClampNeg) : Int64) = x0 then some (z_2, p_1) else fn_X7_findAccount_L2 F sh n h0 x0 f_3 z_2 (p_1 + 1))))
theorem fn_X7_findAccount_L2_s {F : Nat} {sh : Nat → Nat × Nat} {n : Nat} {h0 : Nat} {x0 : Int64} {f_3 : Nat} {z_2 : St} {p_1 : Int32} {y : St × Int32} (h : fn_X7_findAccount_L2 F sh n h0 x0 (f_3 + 1) z_2 p_1 = some y) : grd (okO sh n h0 7) (if ((z_2.1 h0 3) : Int32) ≤ p_1 then some (z_2, (-1)) else lnk (z_2.2.2 h0 0) (fun k_6 => grd (okA sh n k_6 102 p_1) (if ((z_2.2.1 k_6 p_1.toNatClampNeg) : Int64) = x0 then some (z_2, p_1) else fn_X7_findAccount_L2 F sh n h0 x0 f_3 z_2 (p_1 + 1)))) = some y := h
def fn_X7_findAccount (F : Nat) (sh : Nat → Nat × Nat) (n : Nat) (z : St) (h0 : Nat) (x0 : Int64) : Option (St × Int32) := fn_X7_findAccount_L2 F sh n h0 x0 F z 0
set_option maxHeartbeats 4000000 in
set_option maxRecDepth 100000 in
theorem de_X7_findAccount (l : Launch) (dC : Nat → ClassId) (dI : Nat → Nat → Nat) (cy : Nat → ClassId) (a : Nat → Nat) (sh : Nat → Nat × Nat) (n sz : Nat) (F : Nat) (z : St) (h0 : Nat) (x0 : Int64) {z8 : St} {r8 : Int32} (hf : fn_X7_findAccount F sh n z h0 x0 = some (z8, r8)) : Met l yX7_findAccount wsX7_findAccount ({ frames := 0, cells := 0, slots := 0, locals := 0 }) (va_Pc [.ref (a h0), .long x0] (fun U => U.heap.size = sz ∧ va_P (dC, dI) vwCl (Wd cy a sh n z) U.heap ∧ va_K (dC, dI) vwCl (TYS cy) U ∧ va_D (fun _ => True) (Wd cy a sh n z) ∧ NK U)) (va_Qi (fun (r9 : Int32) (u : Unit) => r9 = r8) (fun u t => va_P (dC, dI) vwCl (Wd cy a sh n z8) t.heap ∧ va_K (dC, dI) vwCl (TYS cy) t ∧ va_D (va_A (Wd cy a sh n z) sz) (Wd cy a sh n z8)) (va_A (Wd cy a sh n z) sz)) 0 0 (va_A (Wd cy a sh n z) sz) := by
  refine Met.ofW (cc := cX7_findAccount) (maxL := 4) (ret := (some .int)) (by decide) rfl ?_
  intro p e s m args below meth c s₁ B hml hv
  obtain ⟨rfl, hsz, hP, hK, hD0, hN⟩ := hv
  have hx := B.exec
  have hb := B.bytes
  have hr := B.returns
  have hts := atoms_spec (ws := wsX7_findAccount) B.pre
  have hown : s.vm.findClass RX7 = some m.cls := findClass_of_methodNamed B.named
  have hlocks := B.notSynchronized
  subst hsz
  have hD := hD0.self (sz := s.heap.size)
  clear hD0
  generalize hAe : va_A (Wd cy a sh n z) s.heap.size = A at hD ⊢
  have hA : ∀ q : Nat, s.heap.size ≤ q → A q := fun q h => by rw [← hAe]; exact Or.inr h
  clear hAe
  have hS : va_S A s.heap s.heap [] := va_S.rf
  have hl := lv_entry ([.ref (a h0), .long x0]) (n := 4) (Nat.le_of_ble_eq_true rfl)
  rw [lg_entry_eq]
  generalize (lg_sl ([.ref (a h0), .long x0]) ++ List.replicate (4 - (lg_sl ([.ref (a h0), .long x0])).length) Slot.unset).toArray = ls at hl ⊢
  replace hl : lv_has ls 4 [(0, .ref (a h0)), (1, .long x0)] := hl
  unfold fn_X7_findAccount at hf
  refine de_start hS hP (fun H locs hS hP => ?_)
  refine lv_iconst (v := 0) hx hb dX7_findAccount_0 (by decide) ?_
  refine lv_istore_n (lv' := [(3, .int 0), (0, .ref (a h0)), (1, .long x0)]) hx hb dX7_findAccount_1 rfl hl (by decide) rfl (fun ls hl2 => ?_)
  replace hl := hl2
  clear hl2
  have hl0 : lv_has ls 4 [(3, .int 0), (0, .ref (a h0)), (1, .long x0)] := lv_sub hl [0, 1, 2] rfl
  refine de_loop (h := 2) (fun (x : St × Int32) ls H locs => lv_has ls 4 [(3, .int x.2), (0, .ref (a h0)), (1, .long x0)] ∧ va_P (dC, dI) vwCl (Wd cy a sh n x.1) H ∧ va_D A (Wd cy a sh n x.1) ∧ va_S A s.heap H locs) (fun f x => fn_X7_findAccount_L2 F sh n h0 x0 f x.1 x.2) (z8, r8) ?_ (fun _ => rfl) F (z, 0) ls H locs ⟨hl0, hP, hD, hS⟩ hf
  intro f_3 x ls H locs ih2 hI hf
  obtain ⟨z_2, p_1⟩ := x
  obtain ⟨hl2, hP2, hD2, hS2⟩ := hI
  replace hl : lv_has ls 4 [(3, .int p_1), (0, .ref (a h0)), (1, .long x0)] := hl2
  replace hP := hP2
  replace hD := hD2
  replace hS := hS2
  clear hl2 hP2 hD2 hS2 hl0
  replace hf := fn_X7_findAccount_L2_s hf
  refine lv_iload_n hx hb dX7_findAccount_2 rfl (lv_at hl 0 rfl) ?_
  refine lv_aload_n hx hb dX7_findAccount_3 rfl (lv_at hl 1 rfl) ?_
  obtain ⟨g_4, hf⟩ := grd_some hf
  obtain ⟨kg_4, sg_4⟩ := okO_at g_4
  refine va_get (D := (dC, dI)) (ci := 7) (v := .int (z_2.1 h0 3)) (C := RX7) (T := TX7) (N := 16) hx hb hts iwd_X7_findAccount_X7 hown hK hP h0 (Wd_ob kg_4 sg_4 (by decide)) rfl 3 (by decide) (hts _ md_X7_findAccount_1) (fun _ h9 => h9) (fl_at (t := 0) rfl) dX7_findAccount_4 ?_
  refine lv_icmp_ge (tgt := 29) hx hb dX7_findAccount_7 (by decide) (fun c_5 => ?_) (fun c_5 => ?_)
  · skip
    rw [if_pos c_5] at hf
    refine lv_iconst (v := (-1)) hx hb dX7_findAccount_29 (by decide) ?_
    obtain ⟨h8, h9⟩ := ret_some hf
    rw [h8, h9]
    exact W.iret (v := (-1)) hx hb hr (fun t ht hW => ⟨⟨(-1), (), rfl, rfl, by rw [ht]; exact hP, va_K.moved hW.alike hK, hD⟩, hS.F ht⟩) hS.2.2 dX7_findAccount_30
  · skip
    rw [if_neg c_5] at hf
    refine lv_aload_n hx hb dX7_findAccount_10 rfl (lv_at hl 1 rfl) ?_
    obtain ⟨k_6, ek_6, hf⟩ := lnk_some hf
    refine va_get (D := (dC, dI)) (ci := 7) (v := .ref (a k_6)) (C := RX7) (T := TX7) (N := 16) hx hb hts iwd_X7_findAccount_X7 hown hK hP h0 (Wd_ob kg_4 sg_4 (by decide)) rfl 0 (by decide) (hts _ md_X7_findAccount_2) (fun _ h9 => h9) (fl_q rfl ek_6) dX7_findAccount_11 ?_
    refine lv_iload_n hx hb dX7_findAccount_14 rfl (lv_at hl 0 rfl) ?_
    obtain ⟨g_7, hf⟩ := grd_some hf
    obtain ⟨kg_7, sg_7, ig_7⟩ := okA_at g_7
    refine va_lald hx hb hK hP k_6 2 (Wd_al kg_7 sg_7) rfl ig_7 dX7_findAccount_15 ?_
    refine lv_lload_n hx hb dX7_findAccount_16 rfl (lv_at hl 2 rfl) ?_
    refine W.lcmp hx hb dX7_findAccount_17 ?_
    refine lv_if_ne (tgt := 23) hx hb dX7_findAccount_18 (by decide) (fun c_8 => ?_) (fun c_8 => ?_)
    · skip
      rw [lg_cmp_eq] at c_8
      rw [if_neg c_8] at hf
      refine lv_iinc (v := (p_1 + 1)) (lv' := [(3, .int (p_1 + 1)), (0, .ref (a h0)), (1, .long x0)]) hx hb dX7_findAccount_23 hl (k := 0) rfl rfl (by decide) rfl (fun ls hl2 => ?_)
      replace hl := hl2
      clear hl2
      refine lv_goto (tgt := 2) hx hb dX7_findAccount_26 (by decide) ?_
      exact ih2 (z_2, (p_1 + 1)) ls H locs ⟨lv_sub hl [0, 1, 2] rfl, hP, hD, hS⟩ hf
    · skip
      rw [lg_cmp_eq] at c_8
      rw [if_pos c_8] at hf
      refine lv_iload_n hx hb dX7_findAccount_21 rfl (lv_at hl 0 rfl) ?_
      obtain ⟨h8, h9⟩ := ret_some hf
      rw [h8, h9]
      exact W.iret (v := p_1) hx hb hr (fun t ht hW => ⟨⟨p_1, (), rfl, rfl, by rw [ht]; exact hP, va_K.moved hW.alike hK, hD⟩, hS.F ht⟩) hS.2.2 dX7_findAccount_22

theorem md_X18_findAccount_1 : (.fieldLink RX18 1 "ResourceLedgerModel" "accounts" "I" : Cond) ∈ wsX18_findAccount := List.mem_of_getElem? (i := 1) rfl
theorem iwd_X18_findAccount_X18 : ∀ w ∈ wsX180, w ∈ wsX18_findAccount := fun _ h => List.mem_cons_of_mem _ (List.mem_append_right _ h)
theorem md_X18_findAccount_2 : (.fieldLink RX18 13 "ResourceLedgerModel" "addresses" "[J" : Cond) ∈ wsX18_findAccount := List.mem_of_getElem? (i := 2) rfl
def fn_X18_findAccount_L2 (F : Nat) (sh : Nat → Nat × Nat) (n : Nat) (h0 : Nat) (x0 : Int64) : Nat → St → Int32 → Option (St × Int32)
  | 0, _, _ => none
  | f_3 + 1, z_2, p_1 => grd (okO sh n h0 18) (if ((z_2.1 h0 3) : Int32) ≤ p_1 then if ((z_2.1 h0 3) : Int32) ≤ p_1 then some (z_2, (-1)) else some (z_2, p_1) else lnk (z_2.2.2 h0 0) (fun k_7 => grd (okA sh n k_7 102 p_1) (if ((z_2.2.1 k_7 p_1.toNatClampNeg) : Int64) = x0 then if ((z_2.1 h0 3) : Int32) ≤ p_1 then some (z_2, (-1)) else some (z_2, p_1) else fn_X18_findAccount_L2 F sh n h0 x0 f_3 z_2 (p_1 + 1))))
theorem fn_X18_findAccount_L2_s {F : Nat} {sh : Nat → Nat × Nat} {n : Nat} {h0 : Nat} {x0 : Int64} {f_3 : Nat} {z_2 : St} {p_1 : Int32} {y : St × Int32} (h : fn_X18_findAccount_L2 F sh n h0 x0 (f_3 + 1) z_2 p_1 = some y) : grd (okO sh n h0 18) (if ((z_2.1 h0 3) : Int32) ≤ p_1 then if ((z_2.1 h0 3) : Int32) ≤ p_1 then some (z_2, (-1)) else some (z_2, p_1) else lnk (z_2.2.2 h0 0) (fun k_7 => grd (okA sh n k_7 102 p_1) (if ((z_2.2.1 k_7 p_1.toNatClampNeg) : Int64) = x0 then if ((z_2.1 h0 3) : Int32) ≤ p_1 then some (z_2, (-1)) else some (z_2, p_1) else fn_X18_findAccount_L2 F sh n h0 x0 f_3 z_2 (p_1 + 1)))) = some y := h
def fn_X18_findAccount (F : Nat) (sh : Nat → Nat × Nat) (n : Nat) (z : St) (h0 : Nat) (x0 : Int64) : Option (St × Int32) := fn_X18_findAccount_L2 F sh n h0 x0 F z 0
set_option maxHeartbeats 4000000 in
set_option maxRecDepth 100000 in
theorem de_X18_findAccount (l : Launch) (dC : Nat → ClassId) (dI : Nat → Nat → Nat) (cy : Nat → ClassId) (a : Nat → Nat) (sh : Nat → Nat × Nat) (n sz : Nat) (F : Nat) (z : St) (h0 : Nat) (x0 : Int64) {z8 : St} {r8 : Int32} (hf : fn_X18_findAccount F sh n z h0 x0 = some (z8, r8)) : Met l yX18_findAccount wsX18_findAccount ({ frames := 0, cells := 0, slots := 0, locals := 0 }) (va_Pc [.ref (a h0), .long x0] (fun U => U.heap.size = sz ∧ va_P (dC, dI) vwCl (Wd cy a sh n z) U.heap ∧ va_K (dC, dI) vwCl (TYS cy) U ∧ va_D (fun _ => True) (Wd cy a sh n z) ∧ NK U)) (va_Qi (fun (r9 : Int32) (u : Unit) => r9 = r8) (fun u t => va_P (dC, dI) vwCl (Wd cy a sh n z8) t.heap ∧ va_K (dC, dI) vwCl (TYS cy) t ∧ va_D (va_A (Wd cy a sh n z) sz) (Wd cy a sh n z8)) (va_A (Wd cy a sh n z) sz)) 0 0 (va_A (Wd cy a sh n z) sz) := by
  refine Met.ofW (cc := cX18_findAccount) (maxL := 4) (ret := (some .int)) (by decide) rfl ?_
  intro p e s m args below meth c s₁ B hml hv
  obtain ⟨rfl, hsz, hP, hK, hD0, hN⟩ := hv
  have hx := B.exec
  have hb := B.bytes
  have hr := B.returns
  have hts := atoms_spec (ws := wsX18_findAccount) B.pre
  have hown : s.vm.findClass RX18 = some m.cls := findClass_of_methodNamed B.named
  have hlocks := B.notSynchronized
  subst hsz
  have hD := hD0.self (sz := s.heap.size)
  clear hD0
  generalize hAe : va_A (Wd cy a sh n z) s.heap.size = A at hD ⊢
  have hA : ∀ q : Nat, s.heap.size ≤ q → A q := fun q h => by rw [← hAe]; exact Or.inr h
  clear hAe
  have hS : va_S A s.heap s.heap [] := va_S.rf
  have hl := lv_entry ([.ref (a h0), .long x0]) (n := 4) (Nat.le_of_ble_eq_true rfl)
  rw [lg_entry_eq]
  generalize (lg_sl ([.ref (a h0), .long x0]) ++ List.replicate (4 - (lg_sl ([.ref (a h0), .long x0])).length) Slot.unset).toArray = ls at hl ⊢
  replace hl : lv_has ls 4 [(0, .ref (a h0)), (1, .long x0)] := hl
  unfold fn_X18_findAccount at hf
  refine de_start hS hP (fun H locs hS hP => ?_)
  refine lv_iconst (v := 0) hx hb dX18_findAccount_0 (by decide) ?_
  refine lv_istore_n (lv' := [(3, .int 0), (0, .ref (a h0)), (1, .long x0)]) hx hb dX18_findAccount_1 rfl hl (by decide) rfl (fun ls hl2 => ?_)
  replace hl := hl2
  clear hl2
  have hl0 : lv_has ls 4 [(3, .int 0), (0, .ref (a h0)), (1, .long x0)] := lv_sub hl [0, 1, 2] rfl
  refine de_loop (h := 2) (fun (x : St × Int32) ls H locs => lv_has ls 4 [(3, .int x.2), (0, .ref (a h0)), (1, .long x0)] ∧ va_P (dC, dI) vwCl (Wd cy a sh n x.1) H ∧ va_D A (Wd cy a sh n x.1) ∧ va_S A s.heap H locs) (fun f x => fn_X18_findAccount_L2 F sh n h0 x0 f x.1 x.2) (z8, r8) ?_ (fun _ => rfl) F (z, 0) ls H locs ⟨hl0, hP, hD, hS⟩ hf
  intro f_3 x ls H locs ih2 hI hf
  obtain ⟨z_2, p_1⟩ := x
  obtain ⟨hl2, hP2, hD2, hS2⟩ := hI
  replace hl : lv_has ls 4 [(3, .int p_1), (0, .ref (a h0)), (1, .long x0)] := hl2
  replace hP := hP2
  replace hD := hD2
  replace hS := hS2
  clear hl2 hP2 hD2 hS2 hl0
  replace hf := fn_X18_findAccount_L2_s hf
  refine lv_iload_n hx hb dX18_findAccount_2 rfl (lv_at hl 0 rfl) ?_
  refine lv_aload_n hx hb dX18_findAccount_3 rfl (lv_at hl 1 rfl) ?_
  obtain ⟨g_4, hf⟩ := grd_some hf
  obtain ⟨kg_4, sg_4⟩ := okO_at g_4
  refine va_get (D := (dC, dI)) (ci := 18) (v := .int (z_2.1 h0 3)) (C := RX18) (T := TX18) (N := 78) hx hb hts iwd_X18_findAccount_X18 hown hK hP h0 (Wd_ob kg_4 sg_4 (by decide)) rfl 3 (by decide) (hts _ md_X18_findAccount_1) (fun _ h9 => h9) (fl_at (t := 0) rfl) dX18_findAccount_4 ?_
  refine lv_icmp_ge (tgt := 27) hx hb dX18_findAccount_7 (by decide) (fun c_5 => ?_) (fun c_5 => ?_)
  · skip
    rw [if_pos c_5] at hf
    refine lv_iload_n hx hb dX18_findAccount_27 rfl (lv_at hl 0 rfl) ?_
    refine lv_aload_n hx hb dX18_findAccount_28 rfl (lv_at hl 1 rfl) ?_
    refine va_get (D := (dC, dI)) (ci := 18) (v := .int (z_2.1 h0 3)) (C := RX18) (T := TX18) (N := 78) hx hb hts iwd_X18_findAccount_X18 hown hK hP h0 (Wd_ob kg_4 sg_4 (by decide)) rfl 3 (by decide) (hts _ md_X18_findAccount_1) (fun _ h9 => h9) (fl_at (t := 0) rfl) dX18_findAccount_29 ?_
    refine lv_icmp_ge (tgt := 39) hx hb dX18_findAccount_32 (by decide) (fun c_6 => ?_) (fun c_6 => ?_)
    · skip
      rw [if_pos c_6] at hf
      refine lv_iconst (v := (-1)) hx hb dX18_findAccount_39 (by decide) ?_
      obtain ⟨h8, h9⟩ := ret_some hf
      rw [h8, h9]
      exact W.iret (v := (-1)) hx hb hr (fun t ht hW => ⟨⟨(-1), (), rfl, rfl, by rw [ht]; exact hP, va_K.moved hW.alike hK, hD⟩, hS.F ht⟩) hS.2.2 dX18_findAccount_40
    · skip
      rw [if_neg c_6] at hf
      refine lv_iload_n hx hb dX18_findAccount_35 rfl (lv_at hl 0 rfl) ?_
      refine lv_goto (tgt := 40) hx hb dX18_findAccount_36 (by decide) ?_
      obtain ⟨h8, h9⟩ := ret_some hf
      rw [h8, h9]
      exact W.iret (v := p_1) hx hb hr (fun t ht hW => ⟨⟨p_1, (), rfl, rfl, by rw [ht]; exact hP, va_K.moved hW.alike hK, hD⟩, hS.F ht⟩) hS.2.2 dX18_findAccount_40
  · skip
    rw [if_neg c_5] at hf
    refine lv_aload_n hx hb dX18_findAccount_10 rfl (lv_at hl 1 rfl) ?_
    obtain ⟨k_7, ek_7, hf⟩ := lnk_some hf
    refine va_get (D := (dC, dI)) (ci := 18) (v := .ref (a k_7)) (C := RX18) (T := TX18) (N := 78) hx hb hts iwd_X18_findAccount_X18 hown hK hP h0 (Wd_ob kg_4 sg_4 (by decide)) rfl 0 (by decide) (hts _ md_X18_findAccount_2) (fun _ h9 => h9) (fl_q rfl ek_7) dX18_findAccount_11 ?_
    refine lv_iload_n hx hb dX18_findAccount_14 rfl (lv_at hl 0 rfl) ?_
    obtain ⟨g_8, hf⟩ := grd_some hf
    obtain ⟨kg_8, sg_8, ig_8⟩ := okA_at g_8
    refine va_lald hx hb hK hP k_7 2 (Wd_al kg_8 sg_8) rfl ig_8 dX18_findAccount_15 ?_
    refine lv_lload_n hx hb dX18_findAccount_16 rfl (lv_at hl 2 rfl) ?_
    refine W.lcmp hx hb dX18_findAccount_17 ?_
    refine lv_if_eq (tgt := 27) hx hb dX18_findAccount_18 (by decide) (fun c_9 => ?_) (fun c_9 => ?_)
    · skip
      rw [lg_cmp_eq] at c_9
      rw [if_pos c_9] at hf
      refine lv_iload_n hx hb dX18_findAccount_27 rfl (lv_at hl 0 rfl) ?_
      refine lv_aload_n hx hb dX18_findAccount_28 rfl (lv_at hl 1 rfl) ?_
      refine va_get (D := (dC, dI)) (ci := 18) (v := .int (z_2.1 h0 3)) (C := RX18) (T := TX18) (N := 78) hx hb hts iwd_X18_findAccount_X18 hown hK hP h0 (Wd_ob kg_4 sg_4 (by decide)) rfl 3 (by decide) (hts _ md_X18_findAccount_1) (fun _ h9 => h9) (fl_at (t := 0) rfl) dX18_findAccount_29 ?_
      refine lv_icmp_ge (tgt := 39) hx hb dX18_findAccount_32 (by decide) (fun c_10 => ?_) (fun c_10 => ?_)
      · skip
        rw [if_pos c_10] at hf
        refine lv_iconst (v := (-1)) hx hb dX18_findAccount_39 (by decide) ?_
        obtain ⟨h8, h9⟩ := ret_some hf
        rw [h8, h9]
        exact W.iret (v := (-1)) hx hb hr (fun t ht hW => ⟨⟨(-1), (), rfl, rfl, by rw [ht]; exact hP, va_K.moved hW.alike hK, hD⟩, hS.F ht⟩) hS.2.2 dX18_findAccount_40
      · skip
        rw [if_neg c_10] at hf
        refine lv_iload_n hx hb dX18_findAccount_35 rfl (lv_at hl 0 rfl) ?_
        refine lv_goto (tgt := 40) hx hb dX18_findAccount_36 (by decide) ?_
        obtain ⟨h8, h9⟩ := ret_some hf
        rw [h8, h9]
        exact W.iret (v := p_1) hx hb hr (fun t ht hW => ⟨⟨p_1, (), rfl, rfl, by rw [ht]; exact hP, va_K.moved hW.alike hK, hD⟩, hS.F ht⟩) hS.2.2 dX18_findAccount_40
    · skip
      rw [lg_cmp_eq] at c_9
      rw [if_neg c_9] at hf
      refine lv_iinc (v := (p_1 + 1)) (lv' := [(3, .int (p_1 + 1)), (0, .ref (a h0)), (1, .long x0)]) hx hb dX18_findAccount_21 hl (k := 0) rfl rfl (by decide) rfl (fun ls hl2 => ?_)
      replace hl := hl2
      clear hl2
      refine lv_goto (tgt := 2) hx hb dX18_findAccount_24 (by decide) ?_
      exact ih2 (z_2, (p_1 + 1)) ls H locs ⟨lv_sub hl [0, 1, 2] rfl, hP, hD, hS⟩ hf

theorem md_X7_allBalances_1 : (.fieldLink RX7 51 "ResourceLedger$State" "accountCount" "I" : Cond) ∈ wsX7_allBalances := List.mem_of_getElem? (i := 1) rfl
theorem iwd_X7_allBalances_X7 : ∀ w ∈ wsX70, w ∈ wsX7_allBalances := fun _ h => List.mem_cons_of_mem _ (List.mem_append_right _ h)
theorem md_X7_allBalances_2 : (.fieldLink RX7 15 "ResourceLedger$State" "balance" "[J" : Cond) ∈ wsX7_allBalances := List.mem_of_getElem? (i := 2) rfl
def fn_X7_allBalances_L4 (F : Nat) (sh : Nat → Nat × Nat) (n : Nat) (h0 : Nat) : Nat → St → Int64 → Int32 → Option (St × Int64)
  | 0, _, _, _ => none
  | f_4 + 1, z_3, p_1, p_2 => grd (okO sh n h0 7) (if ((z_3.1 h0 3) : Int32) ≤ p_2 then some (z_3, p_1) else lnk (z_3.2.2 h0 1) (fun k_7 => grd (okA sh n k_7 102 p_2) (lt_ (p_1 + (z_3.2.1 k_7 p_2.toNatClampNeg)) (fun v_9 => fn_X7_allBalances_L4 F sh n h0 f_4 z_3 v_9 (p_2 + 1)))))
theorem fn_X7_allBalances_L4_s {F : Nat} {sh : Nat → Nat × Nat} {n : Nat} {h0 : Nat} {f_4 : Nat} {z_3 : St} {p_1 : Int64} {p_2 : Int32} {y : St × Int64} (h : fn_X7_allBalances_L4 F sh n h0 (f_4 + 1) z_3 p_1 p_2 = some y) : grd (okO sh n h0 7) (if ((z_3.1 h0 3) : Int32) ≤ p_2 then some (z_3, p_1) else lnk (z_3.2.2 h0 1) (fun k_7 => grd (okA sh n k_7 102 p_2) (lt_ (p_1 + (z_3.2.1 k_7 p_2.toNatClampNeg)) (fun v_9 => fn_X7_allBalances_L4 F sh n h0 f_4 z_3 v_9 (p_2 + 1))))) = some y := h
def fn_X7_allBalances (F : Nat) (sh : Nat → Nat × Nat) (n : Nat) (z : St) (h0 : Nat) : Option (St × Int64) := fn_X7_allBalances_L4 F sh n h0 F z 0 0
set_option maxHeartbeats 4000000 in
set_option maxRecDepth 100000 in
theorem de_X7_allBalances (l : Launch) (dC : Nat → ClassId) (dI : Nat → Nat → Nat) (cy : Nat → ClassId) (a : Nat → Nat) (sh : Nat → Nat × Nat) (n sz : Nat) (F : Nat) (z : St) (h0 : Nat) {z8 : St} {r8 : Int64} (hf : fn_X7_allBalances F sh n z h0 = some (z8, r8)) : Met l yX7_allBalances wsX7_allBalances ({ frames := 0, cells := 0, slots := 0, locals := 0 }) (va_Pc [.ref (a h0)] (fun U => U.heap.size = sz ∧ va_P (dC, dI) vwCl (Wd cy a sh n z) U.heap ∧ va_K (dC, dI) vwCl (TYS cy) U ∧ va_D (fun _ => True) (Wd cy a sh n z) ∧ NK U)) (va_Ql (fun (r9 : Int64) (u : Unit) => r9 = r8) (fun u t => va_P (dC, dI) vwCl (Wd cy a sh n z8) t.heap ∧ va_K (dC, dI) vwCl (TYS cy) t ∧ va_D (va_A (Wd cy a sh n z) sz) (Wd cy a sh n z8)) (va_A (Wd cy a sh n z) sz)) 0 0 (va_A (Wd cy a sh n z) sz) := by
  refine Met.ofW (cc := cX7_allBalances) (maxL := 4) (ret := (some .long)) (by decide) rfl ?_
  intro p e s m args below meth c s₁ B hml hv
  obtain ⟨rfl, hsz, hP, hK, hD0, hN⟩ := hv
  have hx := B.exec
  have hb := B.bytes
  have hr := B.returns
  have hts := atoms_spec (ws := wsX7_allBalances) B.pre
  have hown : s.vm.findClass RX7 = some m.cls := findClass_of_methodNamed B.named
  have hlocks := B.notSynchronized
  subst hsz
  have hD := hD0.self (sz := s.heap.size)
  clear hD0
  generalize hAe : va_A (Wd cy a sh n z) s.heap.size = A at hD ⊢
  have hA : ∀ q : Nat, s.heap.size ≤ q → A q := fun q h => by rw [← hAe]; exact Or.inr h
  clear hAe
  have hS : va_S A s.heap s.heap [] := va_S.rf
  have hl := lv_entry ([.ref (a h0)]) (n := 4) (Nat.le_of_ble_eq_true rfl)
  rw [lg_entry_eq]
  generalize (lg_sl ([.ref (a h0)]) ++ List.replicate (4 - (lg_sl ([.ref (a h0)])).length) Slot.unset).toArray = ls at hl ⊢
  replace hl : lv_has ls 4 [(0, .ref (a h0))] := hl
  unfold fn_X7_allBalances at hf
  refine de_start hS hP (fun H locs hS hP => ?_)
  refine lv_lconst (v := 0) hx hb dX7_allBalances_0 (by decide) ?_
  refine lv_lstore_n (lv' := [(1, .long 0), (0, .ref (a h0))]) hx hb dX7_allBalances_1 rfl hl (by decide) rfl (fun ls hl2 => ?_)
  replace hl := hl2
  clear hl2
  refine lv_iconst (v := 0) hx hb dX7_allBalances_2 (by decide) ?_
  refine lv_istore_n (lv' := [(3, .int 0), (1, .long 0), (0, .ref (a h0))]) hx hb dX7_allBalances_3 rfl hl (by decide) rfl (fun ls hl2 => ?_)
  replace hl := hl2
  clear hl2
  have hl0 : lv_has ls 4 [(3, .int 0), (1, .long 0), (0, .ref (a h0))] := lv_sub hl [0, 1, 2] rfl
  refine de_loop (h := 4) (fun (x : St × Int64 × Int32) ls H locs => lv_has ls 4 [(3, .int x.2.2), (1, .long x.2.1), (0, .ref (a h0))] ∧ va_P (dC, dI) vwCl (Wd cy a sh n x.1) H ∧ va_D A (Wd cy a sh n x.1) ∧ va_S A s.heap H locs) (fun f x => fn_X7_allBalances_L4 F sh n h0 f x.1 x.2.1 x.2.2) (z8, r8) ?_ (fun _ => rfl) F (z, 0, 0) ls H locs ⟨hl0, hP, hD, hS⟩ hf
  intro f_4 x ls H locs ih4 hI hf
  obtain ⟨z_3, p_1, p_2⟩ := x
  obtain ⟨hl2, hP2, hD2, hS2⟩ := hI
  replace hl : lv_has ls 4 [(3, .int p_2), (1, .long p_1), (0, .ref (a h0))] := hl2
  replace hP := hP2
  replace hD := hD2
  replace hS := hS2
  clear hl2 hP2 hD2 hS2 hl0
  replace hf := fn_X7_allBalances_L4_s hf
  refine lv_iload_n hx hb dX7_allBalances_4 rfl (lv_at hl 0 rfl) ?_
  refine lv_aload_n hx hb dX7_allBalances_5 rfl (lv_at hl 2 rfl) ?_
  obtain ⟨g_5, hf⟩ := grd_some hf
  obtain ⟨kg_5, sg_5⟩ := okO_at g_5
  refine va_get (D := (dC, dI)) (ci := 7) (v := .int (z_3.1 h0 3)) (C := RX7) (T := TX7) (N := 16) hx hb hts iwd_X7_allBalances_X7 hown hK hP h0 (Wd_ob kg_5 sg_5 (by decide)) rfl 3 (by decide) (hts _ md_X7_allBalances_1) (fun _ h9 => h9) (fl_at (t := 0) rfl) dX7_allBalances_6 ?_
  refine lv_icmp_ge (tgt := 27) hx hb dX7_allBalances_9 (by decide) (fun c_6 => ?_) (fun c_6 => ?_)
  · skip
    rw [if_pos c_6] at hf
    refine lv_lload_n hx hb dX7_allBalances_27 rfl (lv_at hl 1 rfl) ?_
    obtain ⟨h8, h9⟩ := ret_some hf
    rw [h8, h9]
    exact W.lret (v := p_1) hx hb hr (fun t ht hW => ⟨⟨p_1, (), rfl, rfl, by rw [ht]; exact hP, va_K.moved hW.alike hK, hD⟩, hS.F ht⟩) hS.2.2 dX7_allBalances_28
  · skip
    rw [if_neg c_6] at hf
    refine lv_lload_n hx hb dX7_allBalances_12 rfl (lv_at hl 1 rfl) ?_
    refine lv_aload_n hx hb dX7_allBalances_13 rfl (lv_at hl 2 rfl) ?_
    obtain ⟨k_7, ek_7, hf⟩ := lnk_some hf
    refine va_get (D := (dC, dI)) (ci := 7) (v := .ref (a k_7)) (C := RX7) (T := TX7) (N := 16) hx hb hts iwd_X7_allBalances_X7 hown hK hP h0 (Wd_ob kg_5 sg_5 (by decide)) rfl 1 (by decide) (hts _ md_X7_allBalances_2) (fun _ h9 => h9) (fl_q rfl ek_7) dX7_allBalances_14 ?_
    refine lv_iload_n hx hb dX7_allBalances_17 rfl (lv_at hl 0 rfl) ?_
    obtain ⟨g_8, hf⟩ := grd_some hf
    obtain ⟨kg_8, sg_8, ig_8⟩ := okA_at g_8
    refine va_lald hx hb hK hP k_7 2 (Wd_al kg_8 sg_8) rfl ig_8 dX7_allBalances_18 ?_
    refine lv_ladd hx hb dX7_allBalances_19 ?_
    refine lv_topl (fun v_9 ev_9 => ?_)
    replace hf := lt_at ev_9 hf
    clear ev_9
    refine lv_lstore_n (lv' := [(1, .long v_9), (3, .int p_2), (0, .ref (a h0))]) hx hb dX7_allBalances_20 rfl hl (by decide) rfl (fun ls hl2 => ?_)
    replace hl := hl2
    clear hl2
    refine lv_iinc (v := (p_2 + 1)) (lv' := [(3, .int (p_2 + 1)), (1, .long v_9), (0, .ref (a h0))]) hx hb dX7_allBalances_21 hl (k := 1) rfl rfl (by decide) rfl (fun ls hl2 => ?_)
    replace hl := hl2
    clear hl2
    refine lv_goto (tgt := 4) hx hb dX7_allBalances_24 (by decide) ?_
    exact ih4 (z_3, v_9, (p_2 + 1)) ls H locs ⟨lv_sub hl [0, 1, 2] rfl, hP, hD, hS⟩ hf

theorem md_X11_account_1 : (.fieldLink RX11 22 "ResourceLedger" "state" "LResourceLedger$State;" : Cond) ∈ wsX11_account := List.mem_of_getElem? (i := 1) rfl
theorem iwd_X11_account_X11 : ∀ w ∈ wsX110, w ∈ wsX11_account := fun _ h => List.mem_cons_of_mem _ (List.mem_append_left _ (List.mem_append_right _ h))
theorem md_X11_account_3 : (.fieldLink RX11 180 "ResourceLedger$State" "sequence" "[J" : Cond) ∈ wsX11_account := List.mem_of_getElem? (i := 3) rfl
theorem iwd_X11_account_X7 : ∀ w ∈ wsX70, w ∈ wsX11_account := fun _ h => List.mem_cons_of_mem _ (List.mem_append_right _ h)
theorem md_X11_account_2 : (.fieldLink RX11 104 "ResourceLedger$State" "balance" "[J" : Cond) ∈ wsX11_account := List.mem_of_getElem? (i := 2) rfl
def fn_X11_account (F : Nat) (sh : Nat → Nat × Nat) (n : Nat) (z : St) (h0 : Nat) (x0 : Int64) (x1 : Int32) : Option (St × Int64) := grd (okO sh n h0 11) (lnk (z.2.2 h0 6) (fun k_2 => grd (okO sh n k_2 7) (cal (fn_X7_findAccount F sh n z k_2 x0) (fun z_3 r_4 => if (0 : Int32) ≤ r_4 then if (x1 : Int32) = 0 then lnk (z_3.2.2 h0 6) (fun k_14 => grd (okO sh n k_14 7) (lnk (z_3.2.2 k_14 1) (fun k_16 => grd (okA sh n k_16 102 r_4) (some (z_3, (z_3.2.1 k_16 r_4.toNatClampNeg)))))) else if (x1 : Int32) = 1 then lnk (z_3.2.2 h0 6) (fun k_10 => grd (okO sh n k_10 7) (lnk (z_3.2.2 k_10 2) (fun k_12 => grd (okA sh n k_12 102 r_4) (some (z_3, (z_3.2.1 k_12 r_4.toNatClampNeg)))))) else some (z_3, 0) else some (z_3, 0)))))
set_option maxHeartbeats 4000000 in
set_option maxRecDepth 100000 in
theorem de_X11_account (l : Launch) (dC : Nat → ClassId) (dI : Nat → Nat → Nat) (cy : Nat → ClassId) (a : Nat → Nat) (sh : Nat → Nat × Nat) (n sz : Nat) (F : Nat) (z : St) (h0 : Nat) (x0 : Int64) (x1 : Int32) {z8 : St} {r8 : Int64} (hf : fn_X11_account F sh n z h0 x0 x1 = some (z8, r8)) : Met l yX11_account wsX11_account ({ frames := 1, cells := 0, slots := 0, locals := 23 }) (va_Pc [.ref (a h0), .long x0, .int x1] (fun U => U.heap.size = sz ∧ va_P (dC, dI) vwCl (Wd cy a sh n z) U.heap ∧ va_K (dC, dI) vwCl (TYS cy) U ∧ va_D (fun _ => True) (Wd cy a sh n z) ∧ NK U)) (va_Ql (fun (r9 : Int64) (u : Unit) => r9 = r8) (fun u t => va_P (dC, dI) vwCl (Wd cy a sh n z8) t.heap ∧ va_K (dC, dI) vwCl (TYS cy) t ∧ va_D (va_A (Wd cy a sh n z) sz) (Wd cy a sh n z8)) (va_A (Wd cy a sh n z) sz)) 0 0 (va_A (Wd cy a sh n z) sz) := by
  refine Met.ofW (cc := cX11_account) (maxL := 5) (ret := (some .long)) (by decide) rfl ?_
  intro p e s m args below meth c s₁ B hml hv
  obtain ⟨rfl, hsz, hP, hK, hD0, hN⟩ := hv
  have hx := B.exec
  have hb := B.bytes
  have hr := B.returns
  have hts := atoms_spec (ws := wsX11_account) B.pre
  have hown : s.vm.findClass RX11 = some m.cls := findClass_of_methodNamed B.named
  have hlocks := B.notSynchronized
  subst hsz
  have hD := hD0.self (sz := s.heap.size)
  clear hD0
  generalize hAe : va_A (Wd cy a sh n z) s.heap.size = A at hD ⊢
  have hA : ∀ q : Nat, s.heap.size ≤ q → A q := fun q h => by rw [← hAe]; exact Or.inr h
  clear hAe
  have hS : va_S A s.heap s.heap [] := va_S.rf
  have hl := lv_entry ([.ref (a h0), .long x0, .int x1]) (n := 5) (Nat.le_of_ble_eq_true rfl)
  rw [lg_entry_eq]
  generalize (lg_sl ([.ref (a h0), .long x0, .int x1]) ++ List.replicate (5 - (lg_sl ([.ref (a h0), .long x0, .int x1])).length) Slot.unset).toArray = ls at hl ⊢
  replace hl : lv_has ls 5 [(0, .ref (a h0)), (1, .long x0), (3, .int x1)] := hl
  unfold fn_X11_account at hf
  refine de_start hS hP (fun H locs hS hP => ?_)
  refine lv_aload_n hx hb dX11_account_0 rfl (lv_at hl 0 rfl) ?_
  obtain ⟨g_1, hf⟩ := grd_some hf
  obtain ⟨kg_1, sg_1⟩ := okO_at g_1
  obtain ⟨k_2, ek_2, hf⟩ := lnk_some hf
  refine va_get (D := (dC, dI)) (ci := 11) (v := .ref (a k_2)) (C := RX11) (T := TX11) (N := 13) hx hb hts iwd_X11_account_X11 hown hK hP h0 (Wd_ob kg_1 sg_1 (by decide)) rfl 6 (by decide) (hts _ md_X11_account_1) (fun _ h9 => h9) (fl_q rfl ek_2) dX11_account_1 ?_
  refine lv_lload_n hx hb dX11_account_4 rfl (lv_at hl 1 rfl) ?_
  obtain ⟨g_5, hf⟩ := grd_some hf
  obtain ⟨kg_5, sg_5⟩ := okO_at g_5
  obtain ⟨z_3, r_4, hfc, hf⟩ := cal_some hf
  have hFc := de_free hD hS hA
  refine va_calli (va_runV (As := [.long x0]) (rest := []) ⟨hx, hb, hml, hown, hts⟩ (de_X7_findAccount l dC dI cy a sh n H.size F z k_2 x0 hfc) (cwV 1 hts gX11_account_X7_findAccount rfl rfl rfl (by decide +kernel) ⟨Nat.le_of_ble_eq_true rfl, Nat.le_of_ble_eq_true rfl⟩) ⟨fun a U g mk q => by obtain ⟨q0, q1, qP, qK, qD, qN⟩ := q; exact ⟨q0, q1, qP, va_K.moved (u := U) (U := U.calling g mk a) (Vm.Alike.refl U.vm) qK, qD, qN.same rfl⟩, va_recv hK hP (ci := 7) (q0 := k_2) rfl (Wd_ob kg_5 sg_5 (by decide)), fun U hU hW => ⟨rfl, by rw [hU], by rw [hU]; exact hP, va_K.moved hW.alike hK, hD.weaken (fun _ _ _ _ => trivial), hN.warm hW⟩⟩ rfl rfl hl.1 rfl (lv_room (Nat.le_of_ble_eq_true rfl)) dX11_account_5 ⟨Nat.le_of_ble_eq_true rfl, Nat.le_of_ble_eq_true rfl⟩) hS (fun q _ h => hFc q h) hFc (fun rr u t H_6 locs ht hvm hw hB hz1 hk1 hS2 => ?_)
  rw [hw]
  clear hw
  obtain ⟨hP1, -, hD1⟩ := hB
  rw [ht] at hP1
  replace hD := hD1.weaken (fun _ _ _ h => hFc _ h)
  replace hP := hP1
  replace hS := hS2
  clear hP1 hD1 hS2 hFc hfc hz1 hk1 hvm ht
  refine lv_istore (lv' := [(4, .int r_4), (0, .ref (a h0)), (1, .long x0), (3, .int x1)]) hx hb dX11_account_8 hl (by decide) rfl (fun ls hl2 => ?_)
  replace hl := hl2
  clear hl2
  refine lv_iload hx hb dX11_account_10 (lv_at hl 0 rfl) ?_
  refine lv_if_ge (tgt := 17) hx hb dX11_account_12 (by decide) (fun c_7 => ?_) (fun c_7 => ?_)
  · skip
    rw [if_pos c_7] at hf
    refine lv_iload_n hx hb dX11_account_17 rfl (lv_at hl 3 rfl) ?_
    refine lv_if_ne (tgt := 32) hx hb dX11_account_18 (by decide) (fun c_8 => ?_) (fun c_8 => ?_)
    · skip
      rw [if_neg c_8] at hf
      refine lv_iload_n hx hb dX11_account_32 rfl (lv_at hl 3 rfl) ?_
      refine lv_iconst (v := 1) hx hb dX11_account_33 (by decide) ?_
      refine lv_icmp_ne (tgt := 50) hx hb dX11_account_34 (by decide) (fun c_9 => ?_) (fun c_9 => ?_)
      · skip
        rw [if_neg c_9] at hf
        refine lv_lconst (v := 0) hx hb dX11_account_50 (by decide) ?_
        obtain ⟨h8, h9⟩ := ret_some hf
        rw [h8, h9]
        exact W.lret (v := 0) hx hb hr (fun t ht hW => ⟨⟨0, (), rfl, rfl, by rw [ht]; exact hP, va_K.moved hW.alike hK, hD⟩, hS.F ht⟩) hS.2.2 dX11_account_51
      · skip
        rw [if_pos c_9] at hf
        refine lv_aload_n hx hb dX11_account_37 rfl (lv_at hl 1 rfl) ?_
        obtain ⟨k_10, ek_10, hf⟩ := lnk_some hf
        refine va_get (D := (dC, dI)) (ci := 11) (v := .ref (a k_10)) (C := RX11) (T := TX11) (N := 13) hx hb hts iwd_X11_account_X11 hown hK hP h0 (Wd_ob kg_1 sg_1 (by decide)) rfl 6 (by decide) (hts _ md_X11_account_1) (fun _ h9 => h9) (fl_q rfl ek_10) dX11_account_38 ?_
        obtain ⟨g_11, hf⟩ := grd_some hf
        obtain ⟨kg_11, sg_11⟩ := okO_at g_11
        obtain ⟨k_12, ek_12, hf⟩ := lnk_some hf
        refine va_get (D := (dC, dI)) (ci := 7) (v := .ref (a k_12)) (C := RX7) (T := TX7) (N := 16) hx hb hts iwd_X11_account_X7 hown hK hP k_10 (Wd_ob kg_11 sg_11 (by decide)) rfl 2 (by decide) (hts _ md_X11_account_3) (fun _ h9 => h9) (fl_q rfl ek_12) dX11_account_41 ?_
        refine lv_iload hx hb dX11_account_44 (lv_at hl 0 rfl) ?_
        obtain ⟨g_13, hf⟩ := grd_some hf
        obtain ⟨kg_13, sg_13, ig_13⟩ := okA_at g_13
        refine va_lald hx hb hK hP k_12 2 (Wd_al kg_13 sg_13) rfl ig_13 dX11_account_46 ?_
        refine lv_goto (tgt := 51) hx hb dX11_account_47 (by decide) ?_
        obtain ⟨h8, h9⟩ := ret_some hf
        rw [h8, h9]
        exact W.lret (v := (z_3.2.1 k_12 r_4.toNatClampNeg)) hx hb hr (fun t ht hW => ⟨⟨(z_3.2.1 k_12 r_4.toNatClampNeg), (), rfl, rfl, by rw [ht]; exact hP, va_K.moved hW.alike hK, hD⟩, hS.F ht⟩) hS.2.2 dX11_account_51
    · skip
      rw [if_pos c_8] at hf
      refine lv_aload_n hx hb dX11_account_21 rfl (lv_at hl 1 rfl) ?_
      obtain ⟨k_14, ek_14, hf⟩ := lnk_some hf
      refine va_get (D := (dC, dI)) (ci := 11) (v := .ref (a k_14)) (C := RX11) (T := TX11) (N := 13) hx hb hts iwd_X11_account_X11 hown hK hP h0 (Wd_ob kg_1 sg_1 (by decide)) rfl 6 (by decide) (hts _ md_X11_account_1) (fun _ h9 => h9) (fl_q rfl ek_14) dX11_account_22 ?_
      obtain ⟨g_15, hf⟩ := grd_some hf
      obtain ⟨kg_15, sg_15⟩ := okO_at g_15
      obtain ⟨k_16, ek_16, hf⟩ := lnk_some hf
      refine va_get (D := (dC, dI)) (ci := 7) (v := .ref (a k_16)) (C := RX7) (T := TX7) (N := 16) hx hb hts iwd_X11_account_X7 hown hK hP k_14 (Wd_ob kg_15 sg_15 (by decide)) rfl 1 (by decide) (hts _ md_X11_account_2) (fun _ h9 => h9) (fl_q rfl ek_16) dX11_account_25 ?_
      refine lv_iload hx hb dX11_account_28 (lv_at hl 0 rfl) ?_
      obtain ⟨g_17, hf⟩ := grd_some hf
      obtain ⟨kg_17, sg_17, ig_17⟩ := okA_at g_17
      refine va_lald hx hb hK hP k_16 2 (Wd_al kg_17 sg_17) rfl ig_17 dX11_account_30 ?_
      obtain ⟨h8, h9⟩ := ret_some hf
      rw [h8, h9]
      exact W.lret (v := (z_3.2.1 k_16 r_4.toNatClampNeg)) hx hb hr (fun t ht hW => ⟨⟨(z_3.2.1 k_16 r_4.toNatClampNeg), (), rfl, rfl, by rw [ht]; exact hP, va_K.moved hW.alike hK, hD⟩, hS.F ht⟩) hS.2.2 dX11_account_31
  · skip
    rw [if_neg c_7] at hf
    refine lv_lconst (v := 0) hx hb dX11_account_15 (by decide) ?_
    obtain ⟨h8, h9⟩ := ret_some hf
    rw [h8, h9]
    exact W.lret (v := 0) hx hb hr (fun t ht hW => ⟨⟨0, (), rfl, rfl, by rw [ht]; exact hP, va_K.moved hW.alike hK, hD⟩, hS.F ht⟩) hS.2.2 dX11_account_16

theorem md_X18_account_2 : (.fieldLink RX18 519 "ResourceLedgerModel" "sequences" "[J" : Cond) ∈ wsX18_account := List.mem_of_getElem? (i := 2) rfl
theorem iwd_X18_account_X18 : ∀ w ∈ wsX180, w ∈ wsX18_account := fun _ h => List.mem_cons_of_mem _ (List.mem_append_right _ h)
theorem md_X18_account_1 : (.fieldLink RX18 303 "ResourceLedgerModel" "balances" "[J" : Cond) ∈ wsX18_account := List.mem_of_getElem? (i := 1) rfl
def fn_X18_account (F : Nat) (sh : Nat → Nat × Nat) (n : Nat) (z : St) (h0 : Nat) (x0 : Int64) (x1 : Int32) : Option (St × Int64) := grd (okO sh n h0 18) (cal (fn_X18_findAccount F sh n z h0 x0) (fun z_1 r_2 => if (0 : Int32) ≤ r_2 then if (x1 : Int32) = 0 then lnk (z_1.2.2 h0 1) (fun k_10 => grd (okA sh n k_10 102 r_2) (some (z_1, (z_1.2.1 k_10 r_2.toNatClampNeg)))) else if (x1 : Int32) = 1 then lnk (z_1.2.2 h0 2) (fun k_8 => grd (okA sh n k_8 102 r_2) (some (z_1, (z_1.2.1 k_8 r_2.toNatClampNeg)))) else some (z_1, 0) else some (z_1, 0)))
set_option maxHeartbeats 4000000 in
set_option maxRecDepth 100000 in
theorem de_X18_account (l : Launch) (dC : Nat → ClassId) (dI : Nat → Nat → Nat) (cy : Nat → ClassId) (a : Nat → Nat) (sh : Nat → Nat × Nat) (n sz : Nat) (F : Nat) (z : St) (h0 : Nat) (x0 : Int64) (x1 : Int32) {z8 : St} {r8 : Int64} (hf : fn_X18_account F sh n z h0 x0 x1 = some (z8, r8)) : Met l yX18_account wsX18_account ({ frames := 1, cells := 0, slots := 0, locals := 23 }) (va_Pc [.ref (a h0), .long x0, .int x1] (fun U => U.heap.size = sz ∧ va_P (dC, dI) vwCl (Wd cy a sh n z) U.heap ∧ va_K (dC, dI) vwCl (TYS cy) U ∧ va_D (fun _ => True) (Wd cy a sh n z) ∧ NK U)) (va_Ql (fun (r9 : Int64) (u : Unit) => r9 = r8) (fun u t => va_P (dC, dI) vwCl (Wd cy a sh n z8) t.heap ∧ va_K (dC, dI) vwCl (TYS cy) t ∧ va_D (va_A (Wd cy a sh n z) sz) (Wd cy a sh n z8)) (va_A (Wd cy a sh n z) sz)) 0 0 (va_A (Wd cy a sh n z) sz) := by
  refine Met.ofW (cc := cX18_account) (maxL := 5) (ret := (some .long)) (by decide) rfl ?_
  intro p e s m args below meth c s₁ B hml hv
  obtain ⟨rfl, hsz, hP, hK, hD0, hN⟩ := hv
  have hx := B.exec
  have hb := B.bytes
  have hr := B.returns
  have hts := atoms_spec (ws := wsX18_account) B.pre
  have hown : s.vm.findClass RX18 = some m.cls := findClass_of_methodNamed B.named
  have hlocks := B.notSynchronized
  subst hsz
  have hD := hD0.self (sz := s.heap.size)
  clear hD0
  generalize hAe : va_A (Wd cy a sh n z) s.heap.size = A at hD ⊢
  have hA : ∀ q : Nat, s.heap.size ≤ q → A q := fun q h => by rw [← hAe]; exact Or.inr h
  clear hAe
  have hS : va_S A s.heap s.heap [] := va_S.rf
  have hl := lv_entry ([.ref (a h0), .long x0, .int x1]) (n := 5) (Nat.le_of_ble_eq_true rfl)
  rw [lg_entry_eq]
  generalize (lg_sl ([.ref (a h0), .long x0, .int x1]) ++ List.replicate (5 - (lg_sl ([.ref (a h0), .long x0, .int x1])).length) Slot.unset).toArray = ls at hl ⊢
  replace hl : lv_has ls 5 [(0, .ref (a h0)), (1, .long x0), (3, .int x1)] := hl
  unfold fn_X18_account at hf
  refine de_start hS hP (fun H locs hS hP => ?_)
  refine lv_aload_n hx hb dX18_account_0 rfl (lv_at hl 0 rfl) ?_
  refine lv_lload_n hx hb dX18_account_1 rfl (lv_at hl 1 rfl) ?_
  obtain ⟨g_3, hf⟩ := grd_some hf
  obtain ⟨kg_3, sg_3⟩ := okO_at g_3
  obtain ⟨z_1, r_2, hfc, hf⟩ := cal_some hf
  have hFc := de_free hD hS hA
  refine va_calli (va_runV (As := [.long x0]) (rest := []) ⟨hx, hb, hml, hown, hts⟩ (de_X18_findAccount l dC dI cy a sh n H.size F z h0 x0 hfc) (cwV 1 hts gX18_account_X18_findAccount rfl rfl rfl (by decide +kernel) ⟨Nat.le_of_ble_eq_true rfl, Nat.le_of_ble_eq_true rfl⟩) ⟨fun a U g mk q => by obtain ⟨q0, q1, qP, qK, qD, qN⟩ := q; exact ⟨q0, q1, qP, va_K.moved (u := U) (U := U.calling g mk a) (Vm.Alike.refl U.vm) qK, qD, qN.same rfl⟩, va_recv hK hP (ci := 18) (q0 := h0) rfl (Wd_ob kg_3 sg_3 (by decide)), fun U hU hW => ⟨rfl, by rw [hU], by rw [hU]; exact hP, va_K.moved hW.alike hK, hD.weaken (fun _ _ _ _ => trivial), hN.warm hW⟩⟩ rfl rfl hl.1 rfl (lv_room (Nat.le_of_ble_eq_true rfl)) dX18_account_2 ⟨Nat.le_of_ble_eq_true rfl, Nat.le_of_ble_eq_true rfl⟩) hS (fun q _ h => hFc q h) hFc (fun rr u t H_4 locs ht hvm hw hB hz1 hk1 hS2 => ?_)
  rw [hw]
  clear hw
  obtain ⟨hP1, -, hD1⟩ := hB
  rw [ht] at hP1
  replace hD := hD1.weaken (fun _ _ _ h => hFc _ h)
  replace hP := hP1
  replace hS := hS2
  clear hP1 hD1 hS2 hFc hfc hz1 hk1 hvm ht
  refine lv_istore (lv' := [(4, .int r_2), (0, .ref (a h0)), (1, .long x0), (3, .int x1)]) hx hb dX18_account_5 hl (by decide) rfl (fun ls hl2 => ?_)
  replace hl := hl2
  clear hl2
  refine lv_iload hx hb dX18_account_7 (lv_at hl 0 rfl) ?_
  refine lv_if_ge (tgt := 16) hx hb dX18_account_9 (by decide) (fun c_5 => ?_) (fun c_5 => ?_)
  · skip
    rw [if_pos c_5] at hf
    refine lv_iload_n hx hb dX18_account_16 rfl (lv_at hl 3 rfl) ?_
    refine lv_if_ne (tgt := 30) hx hb dX18_account_17 (by decide) (fun c_6 => ?_) (fun c_6 => ?_)
    · skip
      rw [if_neg c_6] at hf
      refine lv_iload_n hx hb dX18_account_30 rfl (lv_at hl 3 rfl) ?_
      refine lv_iconst (v := 1) hx hb dX18_account_31 (by decide) ?_
      refine lv_icmp_ne (tgt := 45) hx hb dX18_account_32 (by decide) (fun c_7 => ?_) (fun c_7 => ?_)
      · skip
        rw [if_neg c_7] at hf
        refine lv_lconst (v := 0) hx hb dX18_account_45 (by decide) ?_
        obtain ⟨h8, h9⟩ := ret_some hf
        rw [h8, h9]
        exact W.lret (v := 0) hx hb hr (fun t ht hW => ⟨⟨0, (), rfl, rfl, by rw [ht]; exact hP, va_K.moved hW.alike hK, hD⟩, hS.F ht⟩) hS.2.2 dX18_account_46
      · skip
        rw [if_pos c_7] at hf
        refine lv_aload_n hx hb dX18_account_35 rfl (lv_at hl 1 rfl) ?_
        obtain ⟨k_8, ek_8, hf⟩ := lnk_some hf
        refine va_get (D := (dC, dI)) (ci := 18) (v := .ref (a k_8)) (C := RX18) (T := TX18) (N := 78) hx hb hts iwd_X18_account_X18 hown hK hP h0 (Wd_ob kg_3 sg_3 (by decide)) rfl 2 (by decide) (hts _ md_X18_account_2) (fun _ h9 => h9) (fl_q rfl ek_8) dX18_account_36 ?_
        refine lv_iload hx hb dX18_account_39 (lv_at hl 0 rfl) ?_
        obtain ⟨g_9, hf⟩ := grd_some hf
        obtain ⟨kg_9, sg_9, ig_9⟩ := okA_at g_9
        refine va_lald hx hb hK hP k_8 2 (Wd_al kg_9 sg_9) rfl ig_9 dX18_account_41 ?_
        refine lv_goto (tgt := 46) hx hb dX18_account_42 (by decide) ?_
        obtain ⟨h8, h9⟩ := ret_some hf
        rw [h8, h9]
        exact W.lret (v := (z_1.2.1 k_8 r_2.toNatClampNeg)) hx hb hr (fun t ht hW => ⟨⟨(z_1.2.1 k_8 r_2.toNatClampNeg), (), rfl, rfl, by rw [ht]; exact hP, va_K.moved hW.alike hK, hD⟩, hS.F ht⟩) hS.2.2 dX18_account_46
    · skip
      rw [if_pos c_6] at hf
      refine lv_aload_n hx hb dX18_account_20 rfl (lv_at hl 1 rfl) ?_
      obtain ⟨k_10, ek_10, hf⟩ := lnk_some hf
      refine va_get (D := (dC, dI)) (ci := 18) (v := .ref (a k_10)) (C := RX18) (T := TX18) (N := 78) hx hb hts iwd_X18_account_X18 hown hK hP h0 (Wd_ob kg_3 sg_3 (by decide)) rfl 1 (by decide) (hts _ md_X18_account_1) (fun _ h9 => h9) (fl_q rfl ek_10) dX18_account_21 ?_
      refine lv_iload hx hb dX18_account_24 (lv_at hl 0 rfl) ?_
      obtain ⟨g_11, hf⟩ := grd_some hf
      obtain ⟨kg_11, sg_11, ig_11⟩ := okA_at g_11
      refine va_lald hx hb hK hP k_10 2 (Wd_al kg_11 sg_11) rfl ig_11 dX18_account_26 ?_
      refine lv_goto (tgt := 46) hx hb dX18_account_27 (by decide) ?_
      obtain ⟨h8, h9⟩ := ret_some hf
      rw [h8, h9]
      exact W.lret (v := (z_1.2.1 k_10 r_2.toNatClampNeg)) hx hb hr (fun t ht hW => ⟨⟨(z_1.2.1 k_10 r_2.toNatClampNeg), (), rfl, rfl, by rw [ht]; exact hP, va_K.moved hW.alike hK, hD⟩, hS.F ht⟩) hS.2.2 dX18_account_46
  · skip
    rw [if_neg c_5] at hf
    refine lv_lconst (v := 0) hx hb dX18_account_12 (by decide) ?_
    refine lv_goto (tgt := 46) hx hb dX18_account_13 (by decide) ?_
    obtain ⟨h8, h9⟩ := ret_some hf
    rw [h8, h9]
    exact W.lret (v := 0) hx hb hr (fun t ht hW => ⟨⟨0, (), rfl, rfl, by rw [ht]; exact hP, va_K.moved hW.alike hK, hD⟩, hS.F ht⟩) hS.2.2 dX18_account_46
