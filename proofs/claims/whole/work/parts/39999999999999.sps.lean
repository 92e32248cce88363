/-! THE CLASS'S LOOKER: what is no reference has no origins, over operations and comings -/
section
variable {U : Md} {ls : List Ty} {L M : Lks} {q : SS × Lks} {t : Ty}
theorem takeP2 (e : lTake L = .ok q) : q.2.2 = L.2 := by
  unfold lTake at e
  by_cases c : L.1.1 = 0
  · rw [if_pos c] at e; cases e
  · rw [if_neg c] at e; cases e; rfl
theorem takeTO (h : LcO ls L.2) : Gd (fun M => LcO ls M.2) (lTakeT t L) := by
  unfold lTakeT
  exact Gd.b (fun q e => Gd.n (Gd.k (by show LcO ls q.2.2; rw [takeP2 e]; exact h)))
theorem takeRO {to : Option Ty} {w : Bool} (h : LcO ls L.2) : Gd (fun q => LcO ls q.2.2) (lTakeR to w L) := by
  unfold lTakeR
  exact Gd.b (fun q e => Gd.n (Gd.n (Gd.k (by show LcO ls q.2.2; rw [takeP2 e]; exact h))))
theorem pushO (h : LcO ls L.2) {s : SS} : Gd (fun M => LcO ls M.2) (lPush s L) := by
  unfold lPush
  intro M e
  by_cases c : 64 ≤ L.1.1
  · rw [if_pos c] at e; cases e
  · rw [if_neg c] at e; cases e; exact h
theorem takesO : ∀ (ts : List Ty) (L : Lks), LcO ls L.2 → Gd (fun M => LcO ls M.2) (aTakes ts L)
  | [], L, h => Gd.k h
  | t :: ts, L, h => Gd.b (fun M e => takesO ts M (takeTO h M e))
theorem givesO : ∀ (ss : List SS) (L : Lks), LcO ls L.2 → Gd (fun M => LcO ls M.2) (aGives ss L)
  | [], L, h => Gd.k h
  | s :: ss, L, h => Gd.b (fun M e => givesO ss M (pushO h M e))
theorem setO (h : LcO ls L.2) {a : Nat} {x : Bool} {o : Int64} {i : Bool} (ho : x = true → isR (ls.getD a []) = false → o = 0 ∧ i = false) : LcO ls (lSetL L a x o i).2 := by
  intro k hk h1 h2
  have h1' : (if k = a then x else L.2.1 k) = true := h1
  show (if k = a then o else L.2.2.1 k) = 0 ∧ (if k = a then i else L.2.2.2 k) = false
  by_cases c : k = a
  · subst c; rw [if_pos rfl] at h1' ⊢; rw [if_pos rfl]; exact ho h1' h2
  · rw [if_neg c] at h1' ⊢; rw [if_neg c]; exact h k hk h1' h2
theorem rOI {t : Ty} (h : isR t = false) (o : Int64) (i : Bool) : rO t o = 0 ∧ rI t i = false := by unfold rO rI; rw [h]; exact ⟨rfl, rfl⟩
theorem aLocalO {o a : Nat} (h : LcO ls L.2) : Gd (fun M => LcO ls M.2) (aLocal U ls o a L) := by
  unfold aLocal
  dsimp only
  refine Gd.i (fun _ => ?_) (fun _ => ?_)
  · exact Gd.b (fun q e => Gd.n (Gd.n (Gd.n (Gd.k (setO (by rw [takeP2 e]; exact h) (fun _ r => rOI r _ _))))))
  refine Gd.n ?_
  refine Gd.i (fun _ => ?_) (fun _ => ?_)
  · exact Gd.n (Gd.n (pushO h))
  refine Gd.i (fun _ => ?_) (fun _ => ?_)
  · exact Gd.n (Gd.b (fun M e => Gd.k (setO (pushO h M e) (fun q => absurd q (by simp)))))
  · exact Gd.n (Gd.n (pushO h))
theorem aOpO {f o a b : Nat} (h : LcO (locOf U f) L.2) : Gd (fun M => LcO (locOf U f) M.2) (aOp U f o a b L) := by
  unfold aOp
  dsimp only
  refine Gd.i (fun _ => ?_) (fun _ => ?_)
  · exact Gd.b (fun q e => Gd.n (Gd.k (by show LcO _ q.2.2; rw [takeP2 e]; exact h)))
  refine Gd.i (fun _ => ?_) (fun _ => ?_)
  · unfold aBack; exact Gd.n (Gd.n (Gd.n (Gd.k h)))
  refine Gd.i (fun _ => ?_) (fun _ => ?_)
  · refine Gd.b (fun M e => Gd.n (Gd.k ?_))
    by_cases c : 2 < o
    · rw [if_pos c] at e; exact takeTO h M e
    · rw [if_neg c] at e; cases e; exact h
  refine Gd.i (fun _ => ?_) (fun _ => ?_)
  · exact pushO h
  refine Gd.i (fun _ => ?_) (fun _ => ?_)
  · exact aLocalO h
  refine Gd.i (fun _ => ?_) (fun _ => ?_)
  · unfold aRef
    refine Gd.i (fun _ => ?_) (fun _ => ?_)
    · exact Gd.b (fun q e => pushO (takeRO h q e))
    refine Gd.i (fun _ => ?_) (fun _ => ?_)
    · exact Gd.b (fun q e => Gd.n (pushO (takeRO h q e)))
    refine Gd.i (fun _ => ?_) (fun _ => ?_)
    · exact Gd.b (fun q e => Gd.b (fun M e2 => Gd.n (Gd.n (Gd.k (takeTO (takeRO h q e) M e2)))))
    · exact Gd.b (fun q e => pushO (takeRO h q e))
  refine Gd.i (fun _ => ?_) (fun _ => ?_)
  · unfold aPack
    refine Gd.i (fun _ => ?_) (fun _ => ?_)
    · exact Gd.b (fun M e => pushO (takesO _ _ h M e))
    · exact Gd.b (fun M e => givesO _ _ (takeTO h M e))
  refine Gd.i (fun _ => ?_) (fun _ => ?_)
  · unfold aCall
    exact Gd.b (fun M e => Gd.n (Gd.n (Gd.n (givesO _ _ (takesO _ _ h M e)))))
  refine Gd.i (fun _ => ?_) (fun _ => ?_)
  · exact Gd.k h
  refine Gd.i (fun _ => ?_) (fun _ => ?_)
  · unfold aNum
    have tk : ∀ {q : SS × Lks} {L : Lks}, LcO (locOf U f) L.2 → lTake L = .ok q → LcO (locOf U f) q.2.2 := fun h e => by rw [takeP2 e]; exact h
    refine Gd.i (fun _ => ?_) (fun _ => ?_)
    · exact Gd.b (fun q e => Gd.n (Gd.b (fun M e2 => pushO (takeTO (tk h e) M e2))))
    refine Gd.i (fun _ => ?_) (fun _ => ?_)
    · exact Gd.b (fun M e => Gd.b (fun q e2 => Gd.n (pushO (tk (takeTO h M e) e2))))
    refine Gd.i (fun _ => ?_) (fun _ => ?_)
    · exact Gd.b (fun M e => pushO (takeTO h M e))
    refine Gd.i (fun _ => ?_) (fun _ => ?_)
    · exact Gd.b (fun q e => Gd.n (Gd.b (fun M e2 => Gd.n (pushO (takeTO (tk h e) M e2)))))
    refine Gd.i (fun _ => ?_) (fun _ => ?_)
    · exact Gd.b (fun q e => Gd.n (Gd.b (fun M e2 => pushO (takeTO (tk h e) M e2))))
    · exact Gd.b (fun q e => Gd.n (pushO (tk h e)))
  refine Gd.i (fun _ => ?_) (fun _ => ?_)
  · exact takeTO h
  refine Gd.i (fun _ => ?_) (fun _ => ?_)
  · exact pushO h
  refine Gd.i (fun _ => ?_) (fun _ => ?_)
  · unfold aRes
    refine Gd.b (fun M e => Gd.n (Gd.n (Gd.n (Gd.n ?_))))
    have hM := takeTO h M e
    refine Gd.i (fun _ => ?_) (fun _ => ?_)
    · exact pushO hM
    refine Gd.i (fun _ => ?_) (fun _ => ?_)
    · exact pushO hM
    refine Gd.i (fun _ => ?_) (fun _ => ?_)
    · exact Gd.k hM
    · exact pushO hM
  · unfold aVec
    dsimp only
    refine Gd.i (fun _ => ?_) (fun _ => ?_)
    · exact Gd.b (fun M e => pushO (takeTO h M e))
    refine Gd.i (fun _ => ?_) (fun _ => ?_)
    · exact Gd.b (fun M e => pushO (takesO _ _ h M e))
    · have op : ∀ (c : Prop) [Decidable c] (t : Ty) (L : Lks), LcO (locOf U f) L.2 → Gd (fun M => LcO (locOf U f) M.2) (if c then lTakeT t L else .ok L) := fun c _ t L hL => by
        by_cases d : c
        · rw [if_pos d]; exact takeTO hL
        · rw [if_neg d]; exact Gd.k hL
      refine Gd.b (fun M1 e1 => Gd.b (fun M2 e2 => Gd.b (fun M3 e3 => Gd.b (fun q e4 => Gd.n ?_))))
      have h3 := op _ _ _ (op _ _ _ (op _ _ _ h M1 e1) M2 e2) M3 e3
      have q1 := takeRO h3 q e4
      refine Gd.i (fun _ => ?_) (fun _ => ?_)
      · exact pushO q1
      refine Gd.i (fun _ => ?_) (fun _ => ?_)
      · exact pushO q1
      refine Gd.i (fun _ => ?_) (fun _ => ?_)
      · exact pushO q1
      · exact Gd.k q1
end
def RO (ls : List Ty) (R : Nat → Option Lc) : Prop := ∀ t Q, R t = some Q → LcO ls Q
theorem comeO {U : Md} {ls : List Ty} {i t : Nat} {C : Lc} {R R' : Nat → Option Lc} (h : RO ls R) (hC : LcO ls C) (e : aCome U ls i t C R = .ok R') : RO ls R' := by
  have st : ∀ Q : Lc, LcO ls Q → RO ls (setR R t Q) := fun Q hQ t' Q' q => by
    unfold setR at q
    by_cases c : t' = t
    · rw [if_pos c] at q; cases q; exact hQ
    · rw [if_neg c] at q; exact h t' Q' q
  unfold aCome at e
  cases er : R t with
  | none =>
    rw [er] at e; cases e
    refine st _ (fun k hk h1 h2 => ?_)
    have h1' : C.1 k = true := h1
    obtain ⟨a, b⟩ := hC k hk h1' h2
    show (if C.1 k = true then C.2.1 k else 0) = 0 ∧ (C.1 k && C.2.2 k) = false
    rw [a, b]
    exact ⟨by by_cases c : C.1 k = true <;> simp [c], by simp⟩
  | some Q =>
    rw [er] at e
    have h' : (if t ≤ i then nd_ ((List.range ls.length).all (bkO U ls Q C)) 9 >>= fun _ => .ok R else nd_ ((List.range ls.length).all (mgB U ls Q C)) 9 >>= fun _ => .ok (setR R t (mgO Q C)) : Px _) = .ok R' := e
    by_cases c : t ≤ i
    · rw [if_pos c] at h'
      cases b : (List.range ls.length).all (bkO U ls Q C) with
      | false => rw [b] at h'; cases h'
      | true => rw [b] at h'; cases h'; exact h
    · rw [if_neg c] at h'
      cases b : (List.range ls.length).all (mgB U ls Q C) with
      | false => rw [b] at h'; cases h'
      | true =>
        rw [b] at h'; cases h'
        refine st _ (fun k hk h1 h2 => ?_)
        have h1' : (Q.1 k && C.1 k) = true := h1
        have h3 : Q.1 k = true ∧ C.1 k = true := by simpa using h1'
        obtain ⟨a, b⟩ := hC k hk h3.2 h2
        obtain ⟨a', b'⟩ := h t Q er k hk h3.1 h2
        show (if (Q.1 k && C.1 k) = true then Q.2.1 k ||| C.2.1 k else 0) = 0 ∧ (Q.1 k && C.1 k && (Q.2.2 k || C.2.2 k)) = false
        rw [if_pos h1', a, b, a', b']
        exact ⟨by decide, by simp⟩
/-- an instruction that no branch leads to is only met from the one before -/
def RN (tg : Nat → Bool) (i : Nat) (R : Nat → Option Lc) : Prop := ∀ j, i < j → tg j = false → R j = none
theorem come_o {U : Md} {ls : List Ty} {i t : Nat} {C : Lc} {R R' : Nat → Option Lc} (e : aCome U ls i t C R = .ok R') : ∀ j, j ≠ t → R' j = R j := by
  have st : ∀ Q : Lc, ∀ j, j ≠ t → setR R t Q j = R j := fun Q j hj => by unfold setR; rw [if_neg hj]
  unfold aCome at e
  cases er : R t with
  | none => rw [er] at e; cases e; exact st _
  | some Q =>
    rw [er] at e
    have h' : (if t ≤ i then nd_ ((List.range ls.length).all (bkO U ls Q C)) 9 >>= fun _ => .ok R else nd_ ((List.range ls.length).all (mgB U ls Q C)) 9 >>= fun _ => .ok (setR R t (mgO Q C)) : Px _) = .ok R' := e
    by_cases c : t ≤ i
    · rw [if_pos c] at h'
      cases b : (List.range ls.length).all (bkO U ls Q C) with
      | false => rw [b] at h'; cases h'
      | true => rw [b] at h'; cases h'; exact fun _ _ => rfl
    · rw [if_neg c] at h'
      cases b : (List.range ls.length).all (mgB U ls Q C) with
      | false => rw [b] at h'; cases h'
      | true => rw [b] at h'; cases h'; exact st _
/-- the frame of looking at one instruction -/
def FrS (z z' : St) : Prop := z'.2.2 = z.2.2 ∧ (∀ k, k < 62 ∨ 72 < k → z'.1 k = z.1 k ∧ z'.2.1 k = z.2.1 k) ∧ z'.2.1 62 11 = z.2.1 62 11 ∧ z'.1 62 4 = z.1 62 4 ∧ z'.1 62 0 = z.1 62 0
theorem FrS.rfl' {z : St} : FrS z z := ⟨rfl, fun _ _ => ⟨rfl, rfl⟩, rfl, rfl, rfl⟩
theorem FrS.trans {z z' z'' : St} (f : FrS z z') (g : FrS z' z'') : FrS z z'' := ⟨g.1.trans f.1, fun k a => ⟨(g.2.1 k a).1.trans (f.2.1 k a).1, (g.2.1 k a).2.trans (f.2.1 k a).2⟩, g.2.2.1.trans f.2.2.1, g.2.2.2.1.trans f.2.2.2.1, g.2.2.2.2.trans f.2.2.2.2⟩
theorem FrQc.s {z z' : St} (f : FrQc z z') : FrS z z' := ⟨f.1, fun k a => f.2.1 k (by omega) (by omega), f.2.2.2.2 11 (by omega) (by omega) (by omega), f.2.2.2.1 4 (by omega) (by omega) (by omega), f.2.2.2.1 0 (by omega) (by omega) (by omega)⟩
theorem FrJc.s {z z' : St} (f : FrJc z z') : FrS z z' := ⟨f.1, fun k a => f.2.1 k (by omega) (by omega), by rw [f.2.2.2], f.2.2.1 4 (by omega), f.2.2.1 0 (by omega)⟩
section
variable {F n : Nat} {sh : Nat → Nat × Nat} {z z' : St} {kp f w ns : Nat} {ls : List Ty} {L M : Lks} {U : Md} {R : Nat → Option Lc} {tg : Nat → Bool} {ln : Nat}
theorem DrO.s (h : DrO z U ls) (g : FrS z z') : DrO z' U ls := fun k hk => by rw [g.2.2.1]; exact h k hk
theorem RcC.qc (P : RcC ln z ls.length tg R) (g : FrQc z z') : RcC ln z' ls.length tg R := by
  have e : ∀ k, 68 ≤ k ∧ k ≤ 72 → z'.1 k = z.1 k ∧ z'.2.1 k = z.2.1 k := fun k hk => g.2.1 k (by omega) (by omega)
  intro t ht
  obtain ⟨p1, p2⟩ := P t ht
  refine ⟨by rw [(e 68 (by omega)).1]; exact p1, fun q => ⟨by rw [(e 69 (by omega)).1]; exact (p2 q).1, fun Q r => ?_⟩⟩
  obtain ⟨k1, k2⟩ := (p2 q).2 Q r
  exact ⟨fun k => by rw [(e 70 (by omega)).2, (e 71 (by omega)).2]; exact k1 k, fun k hk => by rw [(e 72 (by omega)).2]; exact k2 k hk⟩
theorem RcC.si62 (P : RcC ln z ls.length tg R) (j : Nat) (v : Int32) : RcC ln (si z 62 j v) ls.length tg R := by
  intro t ht
  obtain ⟨p1, p2⟩ := P t ht
  exact ⟨by rw [si_ok (by omega)]; exact p1, fun q => ⟨by rw [si_ok (by omega)]; exact (p2 q).1, (p2 q).2⟩⟩
theorem CK.come (hF : 300 ≤ F) (h : CK sh n z kp f ls ns L) (hd : DrO z U ls) (P : RcC ln z ls.length tg R) {i t : Nat} (e4 : z.1 62 4 = nI i) (hi : i < 1024) (ht : t < 1024) (htl : t < ln) (hb : t ≤ i → (R t).isSome = true) : (tg t = false → fn_X3_come F sh n z 62 (nI t) = some (z, ())) ∧ (tg t = true → ∃ z', fn_X3_come F sh n z 62 (nI t) = some (z', ()) ∧ CmC ln sh n z' kp f ls ns tg L (aCome U ls i t L.2 R) ∧ FrJc z z') := by
  obtain ⟨okT, cT⟩ := okt h.1 ht
  have st : fn_X3_come F sh n z 62 (nI t) = if bI (tg t) = 0 then some (z, ()) else if nI t ≤ nI i then cal (fn_X3_comeBack F sh n z 62 (nI t)) (fun z_8 _ => some (z_8, ())) else cal (fn_X3_join F sh n z 62 (nI t)) (fun z_10 _ => some (z_10, ())) := by
    unfold fn_X3_come
    rw [if_neg (show ¬ nI t < 0 from (oI0 t (by omega)).2), if_neg (fun q => by have := (nIge (x := 1024) 1024 rfl (by omega) (by omega)).mp q; omega), h.cb.o3, grd_true, h.1.2.2 62 17 68 rfl, lnk_s, okT 68 103 rfl (by omega), grd_true, cT, (P t htl).1, e4]
  refine ⟨fun g => by rw [st, g, if_pos (show bI false = 0 from rfl)], fun g => ?_⟩
  rw [st, g, if_neg (show ¬ bI true = 0 from one0)]
  unfold aCome
  by_cases c : t ≤ i
  · rw [if_pos ((nI_leI (by omega) (by omega)).mpr c)]
    cases eR : R t with
    | none => have := hb c; rw [eR] at this; cases this
    | some Q =>
      obtain ⟨z1, q1, q2, q3⟩ := h.comeBack (F := F) (U := U) hF hd P ht htl g eR
      rw [q1, cal_s]
      refine ⟨z1, rfl, ?_, q3⟩
      show CmC ln sh n z1 kp f ls ns tg L (if t ≤ i then _ else _)
      rw [if_pos c]; exact q2
  · rw [if_neg (fun q => c ((nI_leI (by omega) (by omega)).mp q))]
    cases eR : R t with
    | none =>
      obtain ⟨z1, q1, q2, q3, q4⟩ := h.join0 (F := F) P ht htl g eR
      rw [q1, cal_s]
      exact ⟨z1, rfl, ⟨q2, q3⟩, q4⟩
    | some Q =>
      obtain ⟨z1, q1, q2, q3⟩ := h.join1 (F := F) (U := U) hF hd P ht htl g eR
      rw [q1, cal_s]
      refine ⟨z1, rfl, ?_, q3⟩
      show CmC ln sh n z1 kp f ls ns tg L (if t ≤ i then _ else _)
      rw [if_neg c]; exact q2
/-- behind a fault -/
theorem CB.come_e (hF : 300 ≤ F) (h : CB sh n z kp f w) (hw : 0 < w) {i t : Nat} (e4 : z.1 62 4 = nI i) (hi : i < 1024) (ht : t ≤ 1024) (hit : i < t) : ∃ z', fn_X3_come F sh n z 62 (nI t) = some (z', ()) ∧ CB sh n z' kp f w ∧ FrJc z z' := by
  unfold fn_X3_come
  rw [if_neg (show ¬ nI t < 0 from (oI0 t (by omega)).2)]
  by_cases c : t = 1024
  · rw [if_pos ((nIge (x := 1024) 1024 rfl (by omega) (by omega)).mpr (by omega))]
    exact ⟨z, rfl, h, FrJc.rfl'⟩
  have ht' : t < 1024 := by omega
  obtain ⟨okT, cT⟩ := okt h.1 ht'
  have L1 := h.1
  rw [if_neg (fun q => by have := (nIge (x := 1024) 1024 rfl (by omega) (by omega)).mp q; omega), h.o3, grd_true, h.1.2.2 62 17 68 rfl, lnk_s, okT 68 103 rfl (by omega), grd_true, e4, if_neg (show ¬ nI t ≤ nI i from fun q => by have := (nI_leI (by omega) (by omega)).mp q; omega)]
  have jn : ∃ z', fn_X3_join F sh n z 62 (nI t) = some (z', ()) ∧ CB sh n z' kp f w ∧ FrJc z z' := by
    have o67 : okO sh n 67 102 = true := lay_o L1 67 102 40 (by decide) rfl
    have o72 : okO sh n 72 102 = true := lay_o L1 72 102 40960 (by decide) rfl
    have s67 : (sh 67).2 = 40 := by rw [L1.2.1 67 (by omega)]; rfl
    have s72 : (sh 72).2 = 40960 := by rw [L1.2.1 72 (by omega)]; rfl
    have c40 : (nI (40 * t)).toNatClampNeg = 40 * t := nI_clamp (by omega)
    have oc : okC 40 40960 0 (nI (40 * t)) 40 = true := by
      unfold okC
      rw [c40, show (0 : Int32).toNatClampNeg = 0 from rfl, show (40 : Int32).toNatClampNeg = 40 from rfl, decide_eq_true (show (0 : Int) ≤ (0 : Int32).toInt from by decide), decide_eq_true (show (0 : Int) ≤ (40 : Int32).toInt from by decide), decide_eq_true (show 0 + 40 ≤ 40 by omega), decide_eq_true (show 40 * t + 40 ≤ 40960 by omega), decide_eq_true (show (0 : Int) ≤ (nI (40 * t)).toInt from by rw [nI_toInt (by omega)]; omega)]
      rfl
    unfold fn_X3_join
    rw [x40 ht', lt_t, h.o3, grd_true, L1.2.2 62 18 69 rfl, lnk_s, okT 69 103 rfl (by omega), grd_true, cT]
    by_cases d : z.1 69 t = 0
    · rw [if_pos d, lnk_s, okT 69 103 rfl (by omega), grd_true, lt_t, si_3, L1.2.2 62 19 70 rfl, lnk_s, okT 70 102 rfl (by omega), grd_true, lt_t, sl_3, si_3, L1.2.2 62 20 71 rfl, lnk_s, okT 71 102 rfl (by omega), grd_true, lt_t, sl_3, sl_3, si_3, L1.2.2 62 10 67 rfl, lnk_s, L1.2.2 62 21 72 rfl, lnk_s, o72, grd_true, o67, grd_true, s67, s72, oc, grd_true, lt_t]
      refine ⟨_, rfl, h.fj (((FrJc.si.trans (FrJc.sl (by omega))).trans (FrJc.sl (by omega))).trans FrJc.scl) ?_, ((FrJc.si.trans (FrJc.sl (by omega))).trans (FrJc.sl (by omega))).trans FrJc.scl⟩
      show (si z 69 t (vp_nar .boolean 1)).1 62 1 = _
      rw [si_ok (by omega)]
    · have fl : fn_X3_fail F sh n z 62 9 = some (z, ()) := h.fail_e hw _
      obtain ⟨z2, s1, s2, s3, s4, _⟩ := jn88 (F := F) (sh := sh) (n := n) (z := z) hF ht' L1
      have f2 : FrJc z z2 := ⟨s3, fun k p q => ⟨by rw [s2], s4 k (by omega)⟩, fun j _ => by rw [s2], s4 62 (by omega)⟩
      rw [if_neg d, L1.2.2 62 19 70 rfl, lnk_s, okT 70 102 rfl (by omega), grd_true, fl, cal_s, s1]
      refine ⟨z2, ?_, h.fj f2 (by rw [s2]), f2⟩
      by_cases d2 : (z.2.1 62 12 ^^^ z.2.1 70 t) &&& (z.2.1 62 11 ^^^ (-1)) = 0
      · rw [if_pos d2]
      · rw [if_neg d2]
  obtain ⟨z1, q1, q2, q3⟩ := jn
  rw [q1, cal_s]
  by_cases d : z.1 68 (nI t).toNatClampNeg = 0
  · rw [if_pos d]; exact ⟨z, rfl, h, FrJc.rfl'⟩
  · rw [if_neg d]; exact ⟨z1, rfl, q2, q3⟩
end
