theorem de_rb {p : Program} {l : Launch} {e : Env} {R : Room} {s : State} {m : MethodId} {args : Array Value} {below : List Frame} {meth : Method} {c : Code} {H : Heap} {locs : List Loc} {cells slots : Nat} {Q : State → Prop} {cc : ByteArray} {pc : Nat} {ls : Array Slot} {rest : List Value} {D : va_G} {cl : List vw_C} {A : Nat → Prop} {a : Nat → Nat} {sk : Nat → Nat} {cy : Nat → ClassId} {sh : Nat → Nat × Nat} {n k : Nat} {z : St} {i v : Int32} (hx : p.tables.exec = Jvm.exec) (hb : c.code = cc) (hK : va_K D cl (TYS cy) s) (hP : va_P D cl (Wd cy a sh n z) H) (hS : va_S A s.heap H locs) (hSK : SKs sk (a CBK) A s s.heap) (h : rb sh n z k i = some v) (hdg : decode cc pc = .ok (.baload, 1))
    (go : W p l e R s m args below meth c H locs cells slots Q (F0 m (pc + 1) ls (.int v :: rest))) : W p l e R s m args below meth c H locs cells slots Q (F0 m pc ls (.int i :: .ref (a k) :: rest)) := by
  unfold rb at h
  by_cases hk : k = CBK
  · rw [if_pos hk] at h
    by_cases hi : okI i 81 = true
    · rw [if_pos hi] at h
      cases h
      rw [hk]
      exact va_tb hx hb hSK.1.2 hS (okI_at hi) rfl hdg go
    · rw [if_neg hi] at h
      exact absurd h (by simp)
  · rw [if_neg hk] at h
    by_cases hi : okA sh n k 100 i = true
    · rw [if_pos hi] at h
      cases h
      obtain ⟨h1, h2, h3⟩ := okA_at hi
      exact va_bald hx hb hK hP k 0 (Wd_ab h1 h2) rfl h3 hdg go
    · rw [if_neg hi] at h
      exact absurd h (by simp)
theorem de_rlen {p : Program} {l : Launch} {e : Env} {R : Room} {s : State} {m : MethodId} {args : Array Value} {below : List Frame} {meth : Method} {c : Code} {H : Heap} {locs : List Loc} {cells slots : Nat} {Q : State → Prop} {cc : ByteArray} {pc : Nat} {ls : Array Slot} {rest : List Value} {D : va_G} {cl : List vw_C} {A : Nat → Prop} {a : Nat → Nat} {sk : Nat → Nat} {cy : Nat → ClassId} {sh : Nat → Nat × Nat} {n k : Nat} {z : St} {v : Int32} (hx : p.tables.exec = Jvm.exec) (hb : c.code = cc) (hK : va_K D cl (TYS cy) s) (hP : va_P D cl (Wd cy a sh n z) H) (hS : va_S A s.heap H locs) (hSK : SKs sk (a CBK) A s s.heap) (h : rlen sh n k = some v) (hdg : decode cc pc = .ok (.arraylength, 1))
    (go : W p l e R s m args below meth c H locs cells slots Q (F0 m (pc + 1) ls (.int v :: rest))) : W p l e R s m args below meth c H locs cells slots Q (F0 m pc ls (.ref (a k) :: rest)) := by
  unfold rlen at h
  by_cases hk : k = CBK
  · rw [if_pos hk] at h
    cases h
    rw [hk]
    exact va_tlen (v := 81) hx hb hSK.1.2 hS rfl hdg go
  · rw [if_neg hk] at h
    by_cases hi : okO sh n k 100 = true
    · rw [if_pos hi] at h
      cases h
      obtain ⟨h1, h2⟩ := okO_at hi
      exact va_alen (v := Int32.ofNat (sh k).2) hx hb hK hP k 0 (Wd_ab h1 h2) rfl rfl hdg go
    · rw [if_neg hi] at h
      exact absurd h (by simp)
/-! copying out of a static row of ints into a row of the world -/
theorem de_nn {z : Int32} (hz : ¬ z < 0) : z.toInt = (z.toNatClampNeg : Int) := by
  have h0 : (0 : Int) ≤ z.toInt := by simpa using Int32.le_iff_toInt_le.mp (Int32.not_lt.mp hz)
  exact (Int.toNat_of_nonneg h0).symm
theorem de_copyt {p : Program} {l : Launch} {e : Env} {R : Room} {s : State} {m : MethodId} {args : Array Value} {below : List Frame} {meth : Method} {c : Code} {H : Heap} {locs : List Loc} {cells slots : Nat} {Q : State → Prop} {cc : ByteArray} {pc : Nat} {ls : Array Slot} {rest : List Value} {D : va_G} {cl : List vw_C} {A : Nat → Prop} {a : Nat} {tys : List (ClassId × FieldType)} {ws : va_W} {own : String} {index : Nat}
    (hx : p.tables.exec = Jvm.exec) (hb : c.code = cc) (hml : c.maxLocals = ls.size) (ho : s.vm.findClass own = some m.cls) (hk : (Cond.methodLink own index arraycopyName).before args s = true) (hn : (Cond.native arraycopyName).before args s = true) (ht : (Cond.static arraycopyName).before args s = true) (hi : (Cond.initialized "java/lang/System").before args s = true)
    (hK : va_K D cl tys s) (hP : va_P D cl ws H) (hD : va_D A ws) (hS : va_S A s.heap H locs) {b0 n0 : Nat} {f : Nat → Int32} (hT : va_T .int b0 n0 (fun j => .int (f j)) A s s.heap) (q1 t1 : Nat) {c1 : ClassId} {n1 : Nat} {g : Nat → Int32} (h1 : ws[q1]? = some (a, .inl (c1, n1, .inl g))) (ty1 : tys[t1]? = some (c1, .int))
    {sp dp k : Int32} (p1 : ¬ sp < 0) (p2 : ¬ dp < 0) (p3 : ¬ k < 0) (p4 : sp.toNatClampNeg + k.toNatClampNeg ≤ n0) (p5 : dp.toNatClampNeg + k.toNatClampNeg ≤ n1) (hfr : 1 ≤ R.frames) (hlo : (rest.map fun v => v.category).sum + (nativeFrameWords "java/lang/System" "arraycopy" 5 + 11) ≤ R.locals) (hdg : decode cc pc = .ok (.invokestatic index, 3))
    (go : ∀ (H1 : Heap) (L1 : List Loc), va_P D cl (ws.set q1 (a, .inl (c1, n1, .inl (va_cpy f g sp.toNatClampNeg dp.toNatClampNeg k.toNatClampNeg)))) H1 → va_D A (ws.set q1 (a, .inl (c1, n1, .inl (va_cpy f g sp.toNatClampNeg dp.toNatClampNeg k.toNatClampNeg)))) → va_S A s.heap H1 L1 → W p l e R s m args below meth c H1 L1 cells slots Q (F0 m (pc + 3) ls rest)) : W p l e R s m args below meth c H locs cells slots Q (F0 m pc ls (.int k :: .int dp :: .ref a :: .int sp :: .ref b0 :: rest)) := by
  obtain ⟨src, e1, ⟨e2, k0, e3, m0, e4⟩, e5, e6, -, e7, e8⟩ := hT
  have hsrc : H[b0]? = some src := (hS.2.1 b0 (Array.getElem?_eq_some_iff.mp e1).1 e8).trans e1
  have hdst : H[a]? = some (vp_cell c1 (n1, .inl g)) := hP q1 _ h1
  have hlt : a < H.size := (Array.getElem?_eq_some_iff.mp hdst).1
  have hin : A a := hD.2 q1 _ h1
  obtain ⟨-, k1, e9, m1, e10⟩ := (hK.2 t1 _ ty1).1 n1 (fun j => .int (g j))
  intro T hTH X
  have X2 := X.arraycopy hx ho hk hn ht hi (src := b0) (dst := a) (cs := src) (cd := vp_cell c1 (n1, .inl g)) (srcPos := sp) (destPos := dp) (n := k) (hTH ▸ hsrc) (hTH ▸ hdst) e2 (fun _ q => nomatch q) e5 (fun q => nomatch q) e3 e9 e4 e10 (by simp [refKind]) p1 p2 p3
    (by rw [de_nn p1, de_nn p3]; omega)
    (by rw [de_nn p2, de_nn p3]; show ¬ _ > ((arrV c1 n1 (fun j => .int (g j))).slots.size : Int); rw [arrV_size]; omega)
    (fun vm1 _ i hik => by
      rw [show src.slots.getD (sp.toNatClampNeg + i) .null = .int (f (sp.toNatClampNeg + i)) by rw [Array.getD_eq_getD_getElem?, e7 _ (by omega)]; rfl]
      exact ⟨rfl, trivial⟩)
    (g := F0 m pc ls (.int k :: .int dp :: .ref a :: .int sp :: .ref b0 :: rest)) rfl (by rw [hml]) (rest := rest) rfl (by rw [hb]; exact hdg) hfr (by show 2 * 0 + _ + _ ≤ _; omega)
  obtain ⟨vm2, X3, st⟩ := X2
  have hcp := va_copiedX (fun z => Value.int z) src c1 (n1 := n1) f g (sp := sp.toNatClampNeg) (dp := dp.toNatClampNeg) (n := k.toNatClampNeg) e7 p4
  rw [show copied src (vp_cell c1 (n1, .inl g)) sp dp k = vp_cell c1 (n1, .inl (va_cpy f g sp.toNatClampNeg dp.toNatClampNeg k.toNatClampNeg)) from hcp] at X3 st
  generalize hN : (va_cpy f g sp.toNatClampNeg dp.toNatClampNeg k.toNatClampNeg) = nw at *
  have hoth : ∀ q : Nat, q ≠ a → (H.setIfInBounds a (vp_cell c1 (n1, .inl nw)))[q]? = H[q]? := fun q hq => by simp [Array.getElem?_setIfInBounds, Ne.symm hq]
  have hown : (H.setIfInBounds a (vp_cell c1 (n1, .inl nw)))[a]? = some (vp_cell c1 (n1, .inl nw)) := by simp [Array.getElem?_setIfInBounds, hlt]
  obtain ⟨t, y1, y2⟩ := go (H.setIfInBounds a (vp_cell c1 (n1, .inl nw))) _ (hP.set hD h1 hown hoth) (hD.set h1)
    ⟨by simp; exact hS.1, fun q g1 g2 => (hoth q (fun e => g2 (e ▸ hin))).trans (hS.2.1 q g1 g2), fun q hq => by
      rcases List.mem_append.mp hq with h | h
      · exact hS.2.2 q h
      · obtain ⟨z, -, hz⟩ := List.mem_map.mp h
        exact hz ▸ hin⟩ _ (by rw [← hTH]; rfl) X3
  exact ⟨t, st t y1, y2⟩
section ALO
variable {p : Program} {l : Launch} {e : Env} {R : Room} {s : State} {m : MethodId} {args : Array Value} {below : List Frame} {meth : Method} {c : Code} {H : Heap} {locs : List Loc} {cells slots : Nat} {Q : State → Prop}
variable {cc : ByteArray} {pc : Nat} {ls : Array Slot} {rest : List Value} {D : va_G} {cl : List vw_C} {A : Nat → Prop} {H0 : Heap} {cy : Nat → ClassId} {a : Nat → Nat} {sh : Nat → Nat × Nat} {n : Nat} {z : St} {β : Type} {y : β} {f : (Nat → Nat × Nat) → Nat → St → Nat → Option β}
theorem de_newa {atype : ArrayType} {ty : FieldType} {t N : Nat} {v : Int32} {a0 : vp_A} (hf : alc sh n z (100 + t, N) f = some y) (hk : lk z n) (hx : p.tables.exec = Jvm.exec) (hb : c.code = cc) (harr : (Cond.arrayClass (newarray.typeOf atype)).before args s = true) (hty : newarray.typeOf atype = ty) (hK : va_K D cl (TYS cy) s) (hP : va_P D cl (Wd cy a sh n z) H) (hD : va_D A (Wd cy a sh n z)) (hS : va_S A H0 H locs) (hA : ∀ q, H0.size ≤ q → A q) (ht : (TYS cy)[t]? = some (cy t, ty)) (he : nE cy (100 + t, N) = .inl (cy t, a0)) (ha : ∀ cA : ClassId, vp_cell cA a0 = arrV cA N (fun _ => defaultValue ty)) (hn : ¬ v < 0) (hN : v.toNatClampNeg = N) (hby : N * componentBytes ty ≤ 536870912) (hce : cells + 1 ≤ R.cells) (hsl : slots + N ≤ R.slots) (hdg : decode cc pc = .ok (.newarray atype, 2))
    (kk : ∀ (a' : Nat → Nat) (sh' : Nat → Nat × Nat) (n' : Nat) (z' : St) (k' : Nat) (H1 : Heap), f sh' n' z' k' = some y → (∀ k, k < n ∨ k = CBK → a' k = a k) → lk z' n' → n ≤ n' → va_P D cl (Wd cy a' sh' n' z') H1 → va_D A (Wd cy a' sh' n' z') → va_S A H0 H1 locs → W p l e R s m args below meth c H1 locs (cells + 1) (slots + N) Q (F0 m (pc + 2) ls (.ref (a' k') :: rest))) : W p l e R s m args below meth c H locs cells slots Q (F0 m pc ls (.int v :: rest)) := by
  obtain ⟨hc, hf⟩ := grd_some hf
  have hc := of_decide_eq_true hc
  refine rl_newa hx hb harr hty hK hP hD hS hA t ht ha hn hN hby hce hsl hdg (fun q H1 hP1 hD1 hS1 => ?_)
  rw [← he, Wd_new hk hc] at hP1 hD1
  have h9 := kk (ax a n q) _ _ _ n H1 hf (fun k h => by
    have hne : k ≠ n := by
      rcases h with h | h
      · exact Nat.ne_of_lt h
      · rw [h]; exact (Nat.ne_of_lt hc).symm
    simp [ax, hne]) (lk_zx hk) (Nat.le_succ n) hP1 hD1 hS1
  rw [show ax a n q n = q by simp [ax]] at h9
  exact h9
theorem de_newq {own C : String} {index t N : Nat} {v : Int32} (hf : alc sh n z (100 + t, N) f = some y) (hk : lk z n) (hx : p.tables.exec = Jvm.exec) (hb : c.code = cc) (hown : s.vm.findClass own = some m.cls) (hcl : (Cond.classLink own index C).before args s = true) (hover : va_AO C s) (hK : va_K D cl (TYS cy) s) (hP : va_P D cl (Wd cy a sh n z) H) (hD : va_D A (Wd cy a sh n z)) (hS : va_S A H0 H locs) (hA : ∀ q, H0.size ≤ q → A q) (ht : (TYS cy)[t]? = some (cy t, .object C)) (he : nE cy (100 + t, N) = .inl (cy t, N, .inr (.inr (.inr (.inr (fun _ => none)))))) (hn : ¬ v < 0) (hN : v.toNatClampNeg = N) (hby : N * 4 ≤ 536870912) (hce : cells + 1 ≤ R.cells) (hsl : slots + N ≤ R.slots) (hdg : decode cc pc = .ok (.anewarray index, 3))
    (kk : ∀ (a' : Nat → Nat) (sh' : Nat → Nat × Nat) (n' : Nat) (z' : St) (k' : Nat) (H1 : Heap), f sh' n' z' k' = some y → (∀ k, k < n ∨ k = CBK → a' k = a k) → lk z' n' → n ≤ n' → va_P D cl (Wd cy a' sh' n' z') H1 → va_D A (Wd cy a' sh' n' z') → va_S A H0 H1 locs → W p l e R s m args below meth c H1 locs (cells + 1) (slots + N) Q (F0 m (pc + 3) ls (.ref (a' k') :: rest))) : W p l e R s m args below meth c H locs cells slots Q (F0 m pc ls (.int v :: rest)) := by
  obtain ⟨hc, hf⟩ := grd_some hf
  have hc := of_decide_eq_true hc
  refine rl_newq hx hb hown hcl hover hK hP hD hS hA t ht hn hN hby hce hsl hdg (fun q H1 hP1 hD1 hS1 => ?_)
  rw [← he, Wd_new hk hc] at hP1 hD1
  have h9 := kk (ax a n q) _ _ _ n H1 hf (fun k h => by
    have hne : k ≠ n := by
      rcases h with h | h
      · exact Nat.ne_of_lt h
      · rw [h]; exact (Nat.ne_of_lt hc).symm
    simp [ax, hne]) (lk_zx hk) (Nat.le_succ n) hP1 hD1 hS1
  rw [show ax a n q n = q by simp [ax]] at h9
  exact h9
theorem de_new {own C : String} {T : u_T} {N ci index : Nat} {Ts : List Cond} (hf : alc sh n z (ci, 0) f = some y) (hk : lk z n) (hx : p.tables.exec = Jvm.exec) (hb : c.code = cc) (hts : ∀ w ∈ Ts, w.before args s = true) (hin : ∀ w ∈ u_ws C T N, w ∈ Ts) (ty : Nat → FieldType) (hty : ∀ k, k < N → parseFieldDescriptor (T k).2.2.1 = some (ty k)) (hown : s.vm.findClass own = some m.cls) (hcl : (Cond.classLink own index C).before args s = true) (hinst : (Cond.instantiable C N).before args s = true) (hini : (Cond.initialized C).before args s = true)
    (hK : va_K D cl (TYS cy) s) (hP : va_P D cl (Wd cy a sh n z) H) (hD : va_D A (Wd cy a sh n z)) (hS : va_S A H0 H locs) (hA : ∀ q, H0.size ≤ q → A q) (hci : cl[ci]? = some (C, T, N)) {fs : List Value} (he : nE cy (ci, 0) = .inr (ci, fs)) (hfs : ∀ j, j < N → defaultValue (ty j) = vp_V fs j) (hce : cells + 1 ≤ R.cells) (hsl : slots + N ≤ R.slots) (hdg : decode cc pc = .ok (.new index, 3))
    (kk : ∀ (a' : Nat → Nat) (sh' : Nat → Nat × Nat) (n' : Nat) (z' : St) (k' : Nat) (H1 : Heap), f sh' n' z' k' = some y → (∀ k, k < n ∨ k = CBK → a' k = a k) → lk z' n' → n ≤ n' → va_P D cl (Wd cy a' sh' n' z') H1 → va_D A (Wd cy a' sh' n' z') → va_S A H0 H1 locs → W p l e R s m args below meth c H1 locs (cells + 1) (slots + N) Q (F0 m (pc + 3) ls (.ref (a' k') :: rest))) : W p l e R s m args below meth c H locs cells slots Q (F0 m pc ls rest) := by
  obtain ⟨hc, hf⟩ := grd_some hf
  have hc := of_decide_eq_true hc
  refine va_new hx hb hts hin ty hty hown hcl hinst hini hK hP hD hS hA hci hfs hce hsl hdg (fun q H1 hP1 hD1 hS1 => ?_)
  rw [← he, Wd_new hk hc] at hP1 hD1
  have h9 := kk (ax a n q) _ _ _ n H1 hf (fun k h => by
    have hne : k ≠ n := by
      rcases h with h | h
      · exact Nat.ne_of_lt h
      · rw [h]; exact (Nat.ne_of_lt hc).symm
    simp [ax, hne]) (lk_zx hk) (Nat.le_succ n) hP1 hD1 hS1
  rw [show ax a n q n = q by simp [ax]] at h9
  exact h9
theorem da_start {a0 : Nat → Nat} {sh0 : Nat → Nat × Nat} {n0 : Nat} {z0 : St} {g : JFrame} {fn : (Nat → Nat × Nat) → Nat → St → Option β} {av : (Nat → Nat) → List (Nat × Value)} {mL : Nat} {sk : Nat → Prop} (hf : fn sh0 n0 z0 = some y) (hk : lk z0 n0) (hS : va_S A s.heap s.heap []) (hD : va_D A (Wd cy a0 sh0 n0 z0)) (hP : va_P D cl (Wd cy a0 sh0 n0 z0) s.heap) (hl : lv_has ls mL (av a0)) (hs : sk (a0 CBK))
    (k : ∀ (a : Nat → Nat) (sh : Nat → Nat × Nat) (n : Nat) (z : St) (H : Heap) (locs : List Loc), fn sh n z = some y → ((∀ k, k < n0 ∨ k = CBK → a k = a0 k) ∧ n0 ≤ n) → lk z n → va_S A s.heap H locs → va_D A (Wd cy a sh n z) → va_P D cl (Wd cy a sh n z) H → lv_has ls mL (av a) → sk (a CBK) → W p l e R s m args below meth c H locs cells slots Q g) : W p l e R s m args below meth c s.heap [] cells slots Q g := k a0 sh0 n0 z0 _ _ hf ⟨fun _ _ => rfl, Nat.le_refl _⟩ hk hS hD hP hl hs
theorem de_clone {own : String} {index k w : Nat} (hf : alk sh n z k f = some y) (hk : lk z n) (hkn : k < n) (hsk : sh k = (100, w)) (hok : okBy w (z.1 k) = true) (hx : p.tables.exec = Jvm.exec) (hb : c.code = cc) (hml : c.maxLocals = ls.size) (hown : s.vm.findClass own = some m.cls) (w1 : (Cond.methodLink own index ⟨"[B", "clone", "()Ljava/lang/Object;"⟩).before args s = true) (w2 : (Cond.sameMethod "[B" "java/lang/Object" "clone" "()Ljava/lang/Object;").before args s = true) (w3 : (Cond.native ⟨"java/lang/Object", "clone", "()Ljava/lang/Object;"⟩).before args s = true) (w4 : (Cond.instanceMethod ⟨"java/lang/Object", "clone", "()Ljava/lang/Object;"⟩).before args s = true) (w5 : (Cond.selects "[B" ⟨"[B", "clone", "()Ljava/lang/Object;"⟩ ⟨"java/lang/Object", "clone", "()Ljava/lang/Object;"⟩).before args s = true) (w6 : va_Nw (.castable "[B" "java/lang/Cloneable") s) (hK : va_K D cl (TYS cy) s) (hP : va_P D cl (Wd cy a sh n z) H) (hD : va_D A (Wd cy a sh n z)) (hS : va_S A H0 H locs) (hA : ∀ q, H0.size ≤ q → A q) (hfr : 1 ≤ R.frames) (hlo : (rest.map fun v => v.category).sum + 14 ≤ R.locals) (hce : cells + 1 ≤ R.cells) (hsl : slots + w ≤ R.slots) (hdg : decode cc pc = .ok (.invokevirtual index, 3))
    (kk : ∀ (a' : Nat → Nat) (sh' : Nat → Nat × Nat) (n' : Nat) (z' : St) (k' : Nat) (H1 : Heap), f sh' n' z' k' = some y → (∀ k, k < n ∨ k = CBK → a' k = a k) → lk z' n' → n ≤ n' → k' < n' → sh' k' = (100, w) → va_P D cl (Wd cy a' sh' n' z') H1 → va_D A (Wd cy a' sh' n' z') → va_S A H0 H1 locs → W p l e R s m args below meth c H1 locs (cells + 1) (slots + w) Q (F0 m (pc + 3) ls (.ref (a' k') :: rest))) : W p l e R s m args below meth c H locs cells slots Q (F0 m pc ls (.ref (a k) :: rest)) := by
  obtain ⟨hc, hf⟩ := grd_some hf
  have hc := of_decide_eq_true hc
  rw [hsk] at hf
  refine va_clone hx hb hml hown w1 w2 w3 w4 w5 w6 hK hP hD hS hA k 0 (x := (w, .inl (z.1 k))) (Wd_ab hkn hsk) rfl ((hK.2 0 (cy 0, .byte) rfl).2) (fun i v hv => ?_) hfr hlo hce hsl hdg (fun q H1 _ hP1 hD1 hS1 => ?_)
  · have hi : i < w := by
      have h0 := (Array.getElem?_eq_some_iff.mp hv).1
      rwa [show (vp_cell (cy 0) (w, .inl (z.1 k))).slots.size = w from arrV_size _ _ _] at h0
    have h1 : (vp_cell (cy 0) (w, .inl (z.1 k))).slots[i]? = some (.int (z.1 k i)) := arrV_read _ _ hi
    rw [h1] at hv
    cases hv
    exact okBy_at hok i hi
  · rw [Wd_newk hk hc] at hP1 hD1
    have h9 := kk (ax a n q) _ _ _ n H1 hf (fun k h => by
      have hne : k ≠ n := by
        rcases h with h | h
        · exact Nat.ne_of_lt h
        · rw [h]; exact (Nat.ne_of_lt hc).symm
      simp [ax, hne]) (lk_zk hk) (Nat.le_succ n) (Nat.lt_succ_self n) (by simp [shx]) hP1 hD1 hS1
    rw [show ax a n q n = q by simp [ax]] at h9
    exact h9
end ALO
