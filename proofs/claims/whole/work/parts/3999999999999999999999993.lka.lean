/-! WHAT ALL FUNCTIONS KEEP (laid by wip/tools/lkgen.py): a property of states that writing at good cells keeps, where links of good cells lead to good cells -/
/-- what is asked of a property of states and one of cells -/
def Kp (Q : St → Prop) (G : Nat → Prop) : Prop := (∀ z k j v, Q z → G k → Q (si z k j v)) ∧ (∀ z k j v, Q z → G k → Q (sl z k j v)) ∧ (∀ z k j o, Q z → G k → (∀ q, o = some q → G q) → Q (sq z k j o)) ∧ (∀ z k f a b m, Q z → G k → Q (sc z k f a b m)) ∧ (∀ z k f a b m, Q z → G k → Q (scl z k f a b m)) ∧ ∀ z k j q, Q z → G k → z.2.2 k j = some q → G q
def LkP {α : Type} (Q : St → Prop) (x : Option (St × α)) : Prop := ∀ z r, x = some (z, r) → Q z
def LkO (Q : St → Prop) (G : Nat → Prop) (x : Option (St × Option Nat)) : Prop := ∀ z r, x = some (z, r) → Q z ∧ ∀ q, r = some q → G q
theorem none_q {G : Nat → Prop} : ∀ q, (none : Option Nat) = some q → G q := fun _ h => nomatch h
theorem some_q {G : Nat → Prop} {k : Nat} (h : G k) : ∀ q, some k = some q → G q := fun _ e => Option.some.inj e ▸ h
section
variable {α β γ : Type} {Q : St → Prop} {G : Nat → Prop}
theorem LkP.none : LkP Q (none : Option (St × α)) := fun _ _ h => nomatch h
theorem LkP.ret {z : St} {r : α} (h : Q z) : LkP Q (some (z, r)) := fun _ _ e => by cases e; exact h
theorem LkP.xg {b : Bool} {x : Option (St × α)} (h : LkP Q x) : LkP Q (grd b x) := by
  cases b
  · exact fun _ _ e => nomatch e
  · exact h
theorem LkP.ite {c : Prop} [Decidable c] {x y : Option (St × α)} (h : LkP Q x) (g : LkP Q y) : LkP Q (if c then x else y) := by
  by_cases q : c
  · rw [if_pos q]; exact h
  · rw [if_neg q]; exact g
theorem LkP.xl {o : Option Nat} {f : Nat → Option (St × α)} (h : ∀ k, o = some k → LkP Q (f k)) : LkP Q (lnk o f) := by
  cases o with
  | none => exact fun _ _ e => nomatch e
  | some k => exact h k rfl
theorem LkP.ltv {v : β} {f : β → Option (St × α)} (h : ∀ w, LkP Q (f w)) : LkP Q (lt_ v f) := h v
theorem LkP.lts {z : St} {f : St → Option (St × α)} (hz : Q z) (h : ∀ w, Q w → LkP Q (f w)) : LkP Q (lt_ z f) := h z hz
theorem LkP.lto {o : Option Nat} {f : Option Nat → Option (St × α)} (ho : ∀ x, o = some x → G x) (h : ∀ w, (∀ x, w = some x → G x) → LkP Q (f w)) : LkP Q (lt_ o f) := h o ho
theorem LkP.xc {x : Option (St × β)} {f : St → β → Option (St × α)} (hx : LkP Q x) (h : ∀ z r, Q z → LkP Q (f z r)) : LkP Q (cal x f) := by
  cases x with
  | none => exact fun _ _ e => nomatch e
  | some p => exact h p.1 p.2 (hx p.1 p.2 rfl)
theorem LkP.calo {x : Option (St × Option Nat)} {f : St → Option Nat → Option (St × α)} (hx : LkO Q G x) (h : ∀ z r, Q z → (∀ q, r = some q → G q) → LkP Q (f z r)) : LkP Q (cal x f) := by
  cases x with
  | none => exact fun _ _ e => nomatch e
  | some p => exact h p.1 p.2 (hx p.1 p.2 rfl).1 (hx p.1 p.2 rfl).2
theorem LkP.xb {o : Option β} {f : β → Option (St × α)} (h : ∀ v, LkP Q (f v)) : LkP Q (bnd o f) := by
  cases o with
  | none => exact fun _ _ e => nomatch e
  | some v => exact h v
theorem LkP.xn {o : Option Nat} {x : Option (St × α)} {f : Nat → Option (St × α)} (hx : LkP Q x) (h : ∀ k, o = some k → LkP Q (f k)) : LkP Q (nul o x f) := by
  cases o with
  | none => exact hx
  | some k => exact h k rfl
theorem LkO.ret {z : St} {r : Option Nat} (h : Q z) (g : ∀ q, r = some q → G q) : LkO Q G (some (z, r)) := fun _ _ e => by cases e; exact ⟨h, g⟩
theorem LkO.none : LkO Q G Option.none := fun _ _ h => nomatch h
theorem LkO.xg {b : Bool} {x : Option (St × Option Nat)} (h : LkO Q G x) : LkO Q G (grd b x) := by
  cases b
  · exact fun _ _ e => nomatch e
  · exact h
theorem LkO.ite {c : Prop} [Decidable c] {x y : Option (St × Option Nat)} (h : LkO Q G x) (g : LkO Q G y) : LkO Q G (if c then x else y) := by
  by_cases q : c
  · rw [if_pos q]; exact h
  · rw [if_neg q]; exact g
theorem LkO.xl {o : Option Nat} {f : Nat → Option (St × Option Nat)} (h : ∀ k, o = some k → LkO Q G (f k)) : LkO Q G (lnk o f) := by
  cases o with
  | none => exact fun _ _ e => nomatch e
  | some k => exact h k rfl
theorem LkO.ltv {v : β} {f : β → Option (St × Option Nat)} (h : ∀ w, LkO Q G (f w)) : LkO Q G (lt_ v f) := h v
theorem LkO.lts {z : St} {f : St → Option (St × Option Nat)} (hz : Q z) (h : ∀ w, Q w → LkO Q G (f w)) : LkO Q G (lt_ z f) := h z hz
theorem LkO.lto {o : Option Nat} {f : Option Nat → Option (St × Option Nat)} (ho : ∀ x, o = some x → G x) (h : ∀ w, (∀ x, w = some x → G x) → LkO Q G (f w)) : LkO Q G (lt_ o f) := h o ho
end
section
variable {Q : St → Prop} {G : Nat → Prop}
theorem lkp_fn_X18_slips {F : Nat} {sh : Nat → Nat × Nat} {n : Nat} {z : St} {h0 : Nat} (K : Kp Q G) (h_z : Q z) (g_h0 : G h0) : LkP Q (fn_X18_slips F sh n z h0) := by
  unfold fn_X18_slips
  exact (LkP.xg (LkP.ret h_z))
theorem lkp_fn_X12_begin {F : Nat} {sh : Nat → Nat × Nat} {n : Nat} {z : St} {h0 : Nat} (K : Kp Q G) (h_z : Q z) (g_h0 : G h0) : LkP Q (fn_X12_begin F sh n z h0) := by
  unfold fn_X12_begin
  exact (LkP.xg (LkP.lts (K.1 _ _ _ _ h_z g_h0) (fun z_3 h_z_3 => (LkP.ret h_z_3))))
theorem lkp_fn_X14_begin {F : Nat} {sh : Nat → Nat × Nat} {n : Nat} {z : St} {h0 : Nat} (K : Kp Q G) (h_z : Q z) (g_h0 : G h0) : LkP Q (fn_X14_begin F sh n z h0) := by
  unfold fn_X14_begin
  exact (LkP.xg (LkP.lts (K.1 _ _ _ _ h_z g_h0) (fun z_3 h_z_3 => (LkP.ret h_z_3))))
theorem lkp_fn_X1_clear {F : Nat} {sh : Nat → Nat × Nat} {n : Nat} {z : St} {h0 : Nat} (K : Kp Q G) (h_z : Q z) (g_h0 : G h0) : LkP Q (fn_X1_clear F sh n z h0) := by
  unfold fn_X1_clear
  exact (LkP.xg (LkP.lts (K.1 _ _ _ _ h_z g_h0) (fun z_3 h_z_3 => (LkP.ret h_z_3))))
theorem lkp_fn_X4_slipCount {F : Nat} {sh : Nat → Nat × Nat} {n : Nat} {z : St} {h0 : Nat} (K : Kp Q G) (h_z : Q z) (g_h0 : G h0) : LkP Q (fn_X4_slipCount F sh n z h0) := by
  unfold fn_X4_slipCount
  exact (LkP.xg (LkP.xl (fun k_2 q => have g_k_2 := K.2.2.2.2.2 _ _ _ _ h_z g_h0 q; (LkP.xg (LkP.ret h_z)))))
theorem lkp_fn_X13_structureType {F : Nat} {sh : Nat → Nat × Nat} {n : Nat} {z : St} {x0 : Int32} (K : Kp Q G) (h_z : Q z) : LkP Q (fn_X13_structureType F sh n z x0) := by
  unfold fn_X13_structureType
  exact (LkP.ret h_z)
theorem lkp_fn_X18_tell {F : Nat} {sh : Nat → Nat × Nat} {n : Nat} {z : St} {h0 : Nat} {x0 : Int32} {x1 : Int32} (K : Kp Q G) (h_z : Q z) (g_h0 : G h0) : LkP Q (fn_X18_tell F sh n z h0 x0 x1) := by
  unfold fn_X18_tell
  exact (LkP.xg (LkP.lts (K.1 _ _ _ _ h_z g_h0) (fun z_3 h_z_3 => (LkP.ret h_z_3))))
theorem lkp_fn_X5_structureType {F : Nat} {sh : Nat → Nat × Nat} {n : Nat} {z : St} {x0 : Int32} (K : Kp Q G) (h_z : Q z) : LkP Q (fn_X5_structureType F sh n z x0) := by
  unfold fn_X5_structureType
  exact (LkP.ret h_z)
theorem lkp_fn_X16_functionCount {F : Nat} {sh : Nat → Nat × Nat} {n : Nat} {z : St} {h0 : Nat} (K : Kp Q G) (h_z : Q z) (g_h0 : G h0) : LkP Q (fn_X16_functionCount F sh n z h0) := by
  unfold fn_X16_functionCount
  exact (LkP.xg (LkP.ret h_z))
theorem lkp_fn_X16_structureCount {F : Nat} {sh : Nat → Nat × Nat} {n : Nat} {z : St} {h0 : Nat} (K : Kp Q G) (h_z : Q z) (g_h0 : G h0) : LkP Q (fn_X16_structureCount F sh n z h0) := by
  unfold fn_X16_structureCount
  exact (LkP.xg (LkP.ret h_z))
theorem lkp_fn_X13_fail {F : Nat} {sh : Nat → Nat × Nat} {n : Nat} {z : St} {h0 : Nat} {x0 : Int32} (K : Kp Q G) (h_z : Q z) (g_h0 : G h0) : LkP Q (fn_X13_fail F sh n z h0 x0) := by
  unfold fn_X13_fail
  exact (LkP.xg (LkP.ite (LkP.lts (K.1 _ _ _ _ h_z g_h0) (fun z_4 h_z_4 => (LkP.ret h_z_4))) (LkP.ret h_z)))
theorem lkp_fn_X16_isGood {F : Nat} {sh : Nat → Nat × Nat} {n : Nat} {z : St} {h0 : Nat} (K : Kp Q G) (h_z : Q z) (g_h0 : G h0) : LkP Q (fn_X16_isGood F sh n z h0) := by
  unfold fn_X16_isGood
  exact (LkP.xg (LkP.ite (LkP.ret h_z) (LkP.ret h_z)))
theorem lkp_fn_X18_goesOn {F : Nat} {sh : Nat → Nat × Nat} {n : Nat} {z : St} {h0 : Nat} (K : Kp Q G) (h_z : Q z) (g_h0 : G h0) : LkP Q (fn_X18_goesOn F sh n z h0) := by
  unfold fn_X18_goesOn
  exact (LkP.xg (LkP.ite (LkP.ret h_z) (LkP.ret h_z)))
theorem lkp_fn_X3_fail {F : Nat} {sh : Nat → Nat × Nat} {n : Nat} {z : St} {h0 : Nat} {x0 : Int32} (K : Kp Q G) (h_z : Q z) (g_h0 : G h0) : LkP Q (fn_X3_fail F sh n z h0 x0) := by
  unfold fn_X3_fail
  exact (LkP.xg (LkP.ite (LkP.lts (K.1 _ _ _ _ h_z g_h0) (fun z_4 h_z_4 => (LkP.ret h_z_4))) (LkP.ret h_z)))
theorem lkp_fn_X11_unweave {F : Nat} {sh : Nat → Nat × Nat} {n : Nat} {z : St} {h0 : Nat} (K : Kp Q G) (h_z : Q z) (g_h0 : G h0) : LkP Q (fn_X11_unweave F sh n z h0) := by
  unfold fn_X11_unweave
  exact (LkP.xg (LkP.ltv (fun v_2 => (LkP.lts (K.1 _ _ _ _ h_z g_h0) (fun z_4 h_z_4 => (LkP.ret h_z_4))))))
theorem lkp_fn_X18_unweave {F : Nat} {sh : Nat → Nat × Nat} {n : Nat} {z : St} {h0 : Nat} (K : Kp Q G) (h_z : Q z) (g_h0 : G h0) : LkP Q (fn_X18_unweave F sh n z h0) := by
  unfold fn_X18_unweave
  exact (LkP.xg (LkP.ltv (fun v_2 => (LkP.lts (K.1 _ _ _ _ h_z g_h0) (fun z_4 h_z_4 => (LkP.ret h_z_4))))))
theorem lkp_fn_X13_byteOf {F : Nat} {sh : Nat → Nat × Nat} {n : Nat} {z : St} {x0 : Int64} {x1 : Int32} (K : Kp Q G) (h_z : Q z) : LkP Q (fn_X13_byteOf F sh n z x0 x1) := by
  unfold fn_X13_byteOf
  exact (LkP.ret h_z)
theorem lkp_fn_X18_local {F : Nat} {sh : Nat → Nat × Nat} {n : Nat} {z : St} {h0 : Nat} {x0 : Int32} (K : Kp Q G) (h_z : Q z) (g_h0 : G h0) : LkP Q (fn_X18_local F sh n z h0 x0) := by
  unfold fn_X18_local
  exact (LkP.xg (LkP.ret h_z))
theorem lkp_fn_X18_placeCount {F : Nat} {sh : Nat → Nat × Nat} {n : Nat} {z : St} {h0 : Nat} (K : Kp Q G) (h_z : Q z) (g_h0 : G h0) : LkP Q (fn_X18_placeCount F sh n z h0) := by
  unfold fn_X18_placeCount
  exact (LkP.xg (LkP.ret h_z))
theorem lkp_fn_X7_placeCount {F : Nat} {sh : Nat → Nat × Nat} {n : Nat} {z : St} {h0 : Nat} (K : Kp Q G) (h_z : Q z) (g_h0 : G h0) : LkP Q (fn_X7_placeCount F sh n z h0) := by
  unfold fn_X7_placeCount
  exact (LkP.xg (LkP.ret h_z))
theorem lkp_fn_L_cell {F : Nat} {sh : Nat → Nat × Nat} {n : Nat} {z : St} {x0 : Nat} {x1 : Int32} (K : Kp Q G) (h_z : Q z) (g_x0 : G x0) : LkP Q (fn_L_cell F sh n z x0 x1) := by
  unfold fn_L_cell
  exact (LkP.xg (LkP.ite (LkP.ret h_z) (LkP.xg (LkP.ret h_z))))
theorem lkp_fn_X10_set {F : Nat} {sh : Nat → Nat × Nat} {n : Nat} {z : St} {h0 : Nat} {x0 : Int64} {x1 : Int64} (K : Kp Q G) (h_z : Q z) (g_h0 : G h0) : LkP Q (fn_X10_set F sh n z h0 x0 x1) := by
  unfold fn_X10_set
  exact (LkP.xg (LkP.lts (K.2.1 _ _ _ _ h_z g_h0) (fun z_3 h_z_3 => (LkP.lts (K.2.1 _ _ _ _ h_z_3 g_h0) (fun z_5 h_z_5 => (LkP.lts (K.1 _ _ _ _ h_z_5 g_h0) (fun z_7 h_z_7 => (LkP.ret h_z_7))))))))
theorem lkp_fn_X14_get {F : Nat} {sh : Nat → Nat × Nat} {n : Nat} {z : St} {h0 : Nat} {x0 : Int32} (K : Kp Q G) (h_z : Q z) (g_h0 : G h0) : LkP Q (fn_X14_get F sh n z h0 x0) := by
  unfold fn_X14_get
  exact (LkP.xg (LkP.ite (LkP.ret h_z) (LkP.xl (fun k_3 q => have g_k_3 := K.2.2.2.2.2 _ _ _ _ h_z g_h0 q; (LkP.xg (LkP.ret h_z))))))
theorem lkp_fn_X18_isDone {F : Nat} {sh : Nat → Nat × Nat} {n : Nat} {z : St} {h0 : Nat} {x0 : Int32} (K : Kp Q G) (h_z : Q z) (g_h0 : G h0) : LkP Q (fn_X18_isDone F sh n z h0 x0) := by
  unfold fn_X18_isDone
  exact (LkP.ite (LkP.ret h_z) (LkP.xg (LkP.ite (LkP.ret h_z) (LkP.ret h_z))))
theorem lkp_fn_X18_isLimit {F : Nat} {sh : Nat → Nat × Nat} {n : Nat} {z : St} {x0 : Int32} (K : Kp Q G) (h_z : Q z) : LkP Q (fn_X18_isLimit F sh n z x0) := by
  unfold fn_X18_isLimit
  exact (LkP.ite (LkP.ret h_z) (LkP.ite (LkP.ret h_z) (LkP.ret h_z)))
theorem lkp_fn_X1_holdsOthers {F : Nat} {sh : Nat → Nat × Nat} {n : Nat} {z : St} {x0 : Int32} (K : Kp Q G) (h_z : Q z) : LkP Q (fn_X1_holdsOthers F sh n z x0) := by
  unfold fn_X1_holdsOthers
  exact (LkP.ite (LkP.ret h_z) (LkP.ite (LkP.ret h_z) (LkP.ret h_z)))
theorem lkp_fn_X4_end {F : Nat} {sh : Nat → Nat × Nat} {n : Nat} {z : St} {h0 : Nat} {x0 : Int32} {x1 : Int64} (K : Kp Q G) (h_z : Q z) (g_h0 : G h0) : LkP Q (fn_X4_end F sh n z h0 x0 x1) := by
  unfold fn_X4_end
  exact (LkP.xg (LkP.lts (K.1 _ _ _ _ h_z g_h0) (fun z_3 h_z_3 => (LkP.lts (K.1 _ _ _ _ h_z_3 g_h0) (fun z_5 h_z_5 => (LkP.lts (K.2.1 _ _ _ _ h_z_5 g_h0) (fun z_7 h_z_7 => (LkP.ret h_z_7))))))))
theorem lkp_fn_X6_fail {F : Nat} {sh : Nat → Nat × Nat} {n : Nat} {z : St} {h0 : Nat} {x0 : Int32} {x1 : Int32} (K : Kp Q G) (h_z : Q z) (g_h0 : G h0) : LkP Q (fn_X6_fail F sh n z h0 x0 x1) := by
  unfold fn_X6_fail
  exact (LkP.xg (LkP.ite (LkP.lts (K.1 _ _ _ _ h_z g_h0) (fun z_4 h_z_4 => (LkP.lts (K.1 _ _ _ _ h_z_4 g_h0) (fun z_6 h_z_6 => (LkP.ret h_z_6))))) (LkP.ret h_z)))
theorem lkp_fn_X8_end {F : Nat} {sh : Nat → Nat × Nat} {n : Nat} {z : St} {h0 : Nat} {x0 : Int32} {x1 : Int64} {x2 : Int32} (K : Kp Q G) (h_z : Q z) (g_h0 : G h0) : LkP Q (fn_X8_end F sh n z h0 x0 x1 x2) := by
  unfold fn_X8_end
  exact (LkP.xg (LkP.lts (K.1 _ _ _ _ h_z g_h0) (fun z_3 h_z_3 => (LkP.lts (K.2.1 _ _ _ _ h_z_3 g_h0) (fun z_5 h_z_5 => (LkP.lts (K.1 _ _ _ _ h_z_5 g_h0) (fun z_7 h_z_7 => (LkP.ret h_z_7))))))))
theorem lkp_fn_X11_begin {F : Nat} {sh : Nat → Nat × Nat} {n : Nat} {z : St} {h0 : Nat} (K : Kp Q G) (h_z : Q z) (g_h0 : G h0) : LkP Q (fn_X11_begin F sh n z h0) := by
  unfold fn_X11_begin
  exact (LkP.xg (LkP.ltv (fun v_2 => (LkP.lts (K.1 _ _ _ _ h_z g_h0) (fun z_4 h_z_4 => (LkP.lts (K.1 _ _ _ _ h_z_4 g_h0) (fun z_6 h_z_6 => (LkP.ret h_z_6))))))))
theorem lkp_fn_X16_fail {F : Nat} {sh : Nat → Nat × Nat} {n : Nat} {z : St} {h0 : Nat} {x0 : Int32} {x1 : Int32} (K : Kp Q G) (h_z : Q z) (g_h0 : G h0) : LkP Q (fn_X16_fail F sh n z h0 x0 x1) := by
  unfold fn_X16_fail
  exact (LkP.xg (LkP.ite (LkP.lts (K.1 _ _ _ _ h_z g_h0) (fun z_4 h_z_4 => (LkP.lts (K.1 _ _ _ _ h_z_4 g_h0) (fun z_6 h_z_6 => (LkP.ret h_z_6))))) (LkP.ret h_z)))
theorem lkp_fn_X18_begin {F : Nat} {sh : Nat → Nat × Nat} {n : Nat} {z : St} {h0 : Nat} (K : Kp Q G) (h_z : Q z) (g_h0 : G h0) : LkP Q (fn_X18_begin F sh n z h0) := by
  unfold fn_X18_begin
  exact (LkP.xg (LkP.ltv (fun v_2 => (LkP.lts (K.1 _ _ _ _ h_z g_h0) (fun z_4 h_z_4 => (LkP.lts (K.1 _ _ _ _ h_z_4 g_h0) (fun z_6 h_z_6 => (LkP.ret h_z_6))))))))
theorem lkp_fn_X18_end {F : Nat} {sh : Nat → Nat × Nat} {n : Nat} {z : St} {h0 : Nat} {x0 : Int32} {x1 : Int64} (K : Kp Q G) (h_z : Q z) (g_h0 : G h0) : LkP Q (fn_X18_end F sh n z h0 x0 x1) := by
  unfold fn_X18_end
  exact (LkP.xg (LkP.ite (LkP.lts (K.1 _ _ _ _ h_z g_h0) (fun z_4 h_z_4 => (LkP.lts (K.2.1 _ _ _ _ h_z_4 g_h0) (fun z_6 h_z_6 => (LkP.ret h_z_6))))) (LkP.ret h_z)))
theorem lkp_fn_X10_below {F : Nat} {sh : Nat → Nat × Nat} {n : Nat} {z : St} {x0 : Int64} {x1 : Int64} (K : Kp Q G) (h_z : Q z) : LkP Q (fn_X10_below F sh n z x0 x1) := by
  unfold fn_X10_below
  exact (LkP.ite (LkP.ret h_z) (LkP.ret h_z))
theorem lkp_fn_X10_bitsOf {F : Nat} {sh : Nat → Nat × Nat} {n : Nat} {z : St} {x0 : Int32} (K : Kp Q G) (h_z : Q z) : LkP Q (fn_X10_bitsOf F sh n z x0) := by
  unfold fn_X10_bitsOf
  exact (LkP.ite (LkP.ret h_z) (LkP.ite (LkP.ret h_z) (LkP.ret h_z)))
theorem lkp_fn_X12_turned {F : Nat} {sh : Nat → Nat × Nat} {n : Nat} {z : St} {x0 : Int64} {x1 : Int32} (K : Kp Q G) (h_z : Q z) : LkP Q (fn_X12_turned F sh n z x0 x1) := by
  unfold fn_X12_turned
  exact (LkP.ret h_z)
theorem lkp_fn_X16_instructions {F : Nat} {sh : Nat → Nat × Nat} {n : Nat} {z : St} {h0 : Nat} {x0 : Int32} (K : Kp Q G) (h_z : Q z) (g_h0 : G h0) : LkP Q (fn_X16_instructions F sh n z h0 x0) := by
  unfold fn_X16_instructions
  exact (LkP.xg (LkP.xl (fun k_2 q => have g_k_2 := K.2.2.2.2.2 _ _ _ _ h_z g_h0 q; (LkP.xg (LkP.xl (fun k_4 q => have g_k_4 := K.2.2.2.2.2 _ _ _ _ h_z g_h0 q; (LkP.xg (LkP.ret h_z))))))))
theorem lkp_fn_X18_bitsOf {F : Nat} {sh : Nat → Nat × Nat} {n : Nat} {z : St} {x0 : Int32} (K : Kp Q G) (h_z : Q z) : LkP Q (fn_X18_bitsOf F sh n z x0) := by
  unfold fn_X18_bitsOf
  exact (LkP.ite (LkP.ret h_z) (LkP.ite (LkP.ret h_z) (LkP.ret h_z)))
theorem lkp_fn_X18_isBelow {F : Nat} {sh : Nat → Nat × Nat} {n : Nat} {z : St} {x0 : Int64} {x1 : Int64} (K : Kp Q G) (h_z : Q z) : LkP Q (fn_X18_isBelow F sh n z x0 x1) := by
  unfold fn_X18_isBelow
  exact (LkP.ite (LkP.ret h_z) (LkP.ret h_z))
theorem lkp_fn_X3_isNumber {F : Nat} {sh : Nat → Nat × Nat} {n : Nat} {z : St} {x0 : Int64} (K : Kp Q G) (h_z : Q z) : LkP Q (fn_X3_isNumber F sh n z x0) := by
  unfold fn_X3_isNumber
  exact (LkP.ite (LkP.ret h_z) (LkP.ite (LkP.ret h_z) (LkP.ret h_z)))
theorem lkp_fn_X5_endsInStructure {F : Nat} {sh : Nat → Nat × Nat} {n : Nat} {z : St} {x0 : Int64} (K : Kp Q G) (h_z : Q z) : LkP Q (fn_X5_endsInStructure F sh n z x0) := by
  unfold fn_X5_endsInStructure
  exact (LkP.ite (LkP.ret h_z) (LkP.ret h_z))
theorem lkp_fn_X7_widthOf {F : Nat} {sh : Nat → Nat × Nat} {n : Nat} {z : St} {x0 : Int32} (K : Kp Q G) (h_z : Q z) : LkP Q (fn_X7_widthOf F sh n z x0) := by
  unfold fn_X7_widthOf
  exact (LkP.ite (LkP.ret h_z) (LkP.ite (LkP.ret h_z) (LkP.ite (LkP.ret h_z) (LkP.ite (LkP.ret h_z) (LkP.ite (LkP.ret h_z) (LkP.ite (LkP.ret h_z) (LkP.ite (LkP.ret h_z) (LkP.ret h_z))))))))
theorem lkp_fn_X16_byteAt {F : Nat} {sh : Nat → Nat × Nat} {n : Nat} {z : St} {h0 : Nat} {x0 : Int32} (K : Kp Q G) (h_z : Q z) (g_h0 : G h0) : LkP Q (fn_X16_byteAt F sh n z h0 x0) := by
  unfold fn_X16_byteAt
  exact (LkP.xg (LkP.ite (LkP.ret h_z) (LkP.xl (fun k_3 q => have g_k_3 := K.2.2.2.2.2 _ _ _ _ h_z g_h0 q; (LkP.xg (LkP.ret h_z))))))
theorem lkp_fn_X17_clear_L2 {F : Nat} {sh : Nat → Nat × Nat} {n : Nat} {h0 : Nat} (K : Kp Q G) (g_h0 : G h0) : ∀ (f : Nat) (v1 : St) (v2 : Int32), Q v1 → LkP Q (fn_X17_clear_L2 F sh n h0 f v1 v2) := by
  intro f
  induction f with
  | zero => intros; exact LkP.none
  | succ f_3 ih =>
    intro z_2 p_1 h_z_2
    exact (LkP.ite (LkP.ret h_z_2) (LkP.xg (LkP.xl (fun k_6 q => have g_k_6 := K.2.2.2.2.2 _ _ _ _ h_z_2 g_h0 q; (LkP.xg (LkP.lts (K.1 _ _ _ _ h_z_2 g_k_6) (fun z_9 h_z_9 => (ih _ _ h_z_9 ))))))))
theorem lkp_fn_X17_clear {F : Nat} {sh : Nat → Nat × Nat} {n : Nat} {z : St} {h0 : Nat} (K : Kp Q G) (h_z : Q z) (g_h0 : G h0) : LkP Q (fn_X17_clear F sh n z h0) := by
  unfold fn_X17_clear
  exact (lkp_fn_X17_clear_L2 K g_h0 _ _ _ h_z )
theorem lkp_fn_X3_isThere {F : Nat} {sh : Nat → Nat × Nat} {n : Nat} {z : St} {h0 : Nat} {x0 : Int32} (K : Kp Q G) (h_z : Q z) (g_h0 : G h0) : LkP Q (fn_X3_isThere F sh n z h0 x0) := by
  unfold fn_X3_isThere
  exact (LkP.xg (LkP.ite (LkP.ret h_z) (LkP.ret h_z)))
theorem lkp_fn_X5_clear {F : Nat} {sh : Nat → Nat × Nat} {n : Nat} {z : St} {h0 : Nat} (K : Kp Q G) (h_z : Q z) (g_h0 : G h0) : LkP Q (fn_X5_clear F sh n z h0) := by
  unfold fn_X5_clear
  exact (LkP.xg (LkP.lts (K.1 _ _ _ _ h_z g_h0) (fun z_3 h_z_3 => (LkP.lts (K.1 _ _ _ _ h_z_3 g_h0) (fun z_5 h_z_5 => (LkP.lts (K.1 _ _ _ _ h_z_5 g_h0) (fun z_7 h_z_7 => (LkP.lts (K.1 _ _ _ _ h_z_7 g_h0) (fun z_9 h_z_9 => (LkP.ret h_z_9))))))))))
theorem lkp_fn_X5_typeAt {F : Nat} {sh : Nat → Nat × Nat} {n : Nat} {z : St} {h0 : Nat} {x0 : Int32} (K : Kp Q G) (h_z : Q z) (g_h0 : G h0) : LkP Q (fn_X5_typeAt F sh n z h0 x0) := by
  unfold fn_X5_typeAt
  exact (LkP.ite (LkP.ret h_z) (LkP.xg (LkP.ite (LkP.xl (fun k_4 q => have g_k_4 := K.2.2.2.2.2 _ _ _ _ h_z g_h0 q; (LkP.xg (LkP.ret h_z)))) (LkP.ret h_z))))
theorem lkp_fn_X0_start {F : Nat} {sh : Nat → Nat × Nat} {n : Nat} {z : St} {h0 : Nat} (K : Kp Q G) (h_z : Q z) (g_h0 : G h0) : LkP Q (fn_X0_start F sh n z h0) := by
  unfold fn_X0_start
  exact (LkP.xg (LkP.xl (fun k_2 q => have g_k_2 := K.2.2.2.2.2 _ _ _ _ h_z g_h0 q; (LkP.xg (LkP.xg (LkP.lts (K.2.2.2.1 _ _ _ _ _ _ h_z g_k_2) (fun z_6 h_z_6 => (LkP.lts (K.1 _ _ _ _ h_z_6 g_h0) (fun z_8 h_z_8 => (LkP.lts (K.2.1 _ _ _ _ h_z_8 g_h0) (fun z_10 h_z_10 => (LkP.ret h_z_10))))))))))))
theorem lkp_fn_X11_code {F : Nat} {sh : Nat → Nat × Nat} {n : Nat} {z : St} {h0 : Nat} {x0 : Int32} (K : Kp Q G) (h_z : Q z) (g_h0 : G h0) : LkP Q (fn_X11_code F sh n z h0 x0) := by
  unfold fn_X11_code
  exact (LkP.ite (LkP.ret h_z) (LkP.xg (LkP.ite (LkP.xl (fun k_4 q => have g_k_4 := K.2.2.2.2.2 _ _ _ _ h_z g_h0 q; (LkP.xg (LkP.xl (fun k_6 q => have g_k_6 := K.2.2.2.2.2 _ _ _ _ h_z g_k_4 q; (LkP.xg (LkP.ret h_z))))))) (LkP.ret h_z))))
theorem lkp_fn_X12_add {F : Nat} {sh : Nat → Nat × Nat} {n : Nat} {z : St} {h0 : Nat} {x0 : Int32} (K : Kp Q G) (h_z : Q z) (g_h0 : G h0) : LkP Q (fn_X12_add F sh n z h0 x0) := by
  unfold fn_X12_add
  exact (LkP.xg (LkP.xl (fun k_2 q => have g_k_2 := K.2.2.2.2.2 _ _ _ _ h_z g_h0 q; (LkP.xg (LkP.lts (K.1 _ _ _ _ h_z g_k_2) (fun z_5 h_z_5 => (LkP.lts (K.1 _ _ _ _ h_z_5 g_h0) (fun z_7 h_z_7 => (LkP.ret h_z_7)))))))))
theorem lkp_fn_X5_headShift_L3 {F : Nat} {sh : Nat → Nat × Nat} {n : Nat} {x0 : Int64} (K : Kp Q G)  : ∀ (f : Nat) (v1 : St) (v2 : Int32), Q v1 → LkP Q (fn_X5_headShift_L3 F sh n x0 f v1 v2) := by
  intro f
  induction f with
  | zero => intros; exact LkP.none
  | succ f_3 ih =>
    intro z_2 p_1 h_z_2
    exact (LkP.ite (LkP.ret h_z_2) (LkP.ite (ih _ _ h_z_2 ) (LkP.ret h_z_2)))
theorem lkp_fn_X5_headShift {F : Nat} {sh : Nat → Nat × Nat} {n : Nat} {z : St} {x0 : Int64} (K : Kp Q G) (h_z : Q z) : LkP Q (fn_X5_headShift F sh n z x0) := by
  unfold fn_X5_headShift
  exact (lkp_fn_X5_headShift_L3 K  _ _ _ h_z )
theorem lkp_fn_X11_byteOf {F : Nat} {sh : Nat → Nat × Nat} {n : Nat} {z : St} {h0 : Nat} {x0 : Int32} (K : Kp Q G) (h_z : Q z) (g_h0 : G h0) : LkP Q (fn_X11_byteOf F sh n z h0 x0) := by
  unfold fn_X11_byteOf
  exact (LkP.ite (LkP.ret h_z) (LkP.xg (LkP.ite (LkP.xl (fun k_4 q => have g_k_4 := K.2.2.2.2.2 _ _ _ _ h_z g_h0 q; (LkP.xg (LkP.ret h_z)))) (LkP.ret h_z))))
theorem lkp_fn_X18_byteOf {F : Nat} {sh : Nat → Nat × Nat} {n : Nat} {z : St} {h0 : Nat} {x0 : Int32} (K : Kp Q G) (h_z : Q z) (g_h0 : G h0) : LkP Q (fn_X18_byteOf F sh n z h0 x0) := by
  unfold fn_X18_byteOf
  exact (LkP.ite (LkP.ret h_z) (LkP.xg (LkP.ite (LkP.ret h_z) (LkP.xl (fun k_4 q => have g_k_4 := K.2.2.2.2.2 _ _ _ _ h_z g_h0 q; (LkP.xg (LkP.ret h_z)))))))
theorem lkp_fn_X5_at {F : Nat} {sh : Nat → Nat × Nat} {n : Nat} {z : St} {h0 : Nat} {x0 : Int32} (K : Kp Q G) (h_z : Q z) (g_h0 : G h0) : LkP Q (fn_X5_at F sh n z h0 x0) := by
  unfold fn_X5_at
  exact (LkP.ite (LkP.ret h_z) (LkP.xg (LkP.ite (LkP.xl (fun k_4 q => have g_k_4 := K.2.2.2.2.2 _ _ _ _ h_z g_h0 q; (LkP.xb (fun v_5 => (LkP.ret h_z))))) (LkP.ret h_z))))
theorem lkp_fn_X5_setFunction {F : Nat} {sh : Nat → Nat × Nat} {n : Nat} {z : St} {h0 : Nat} {x0 : Int32} {x1 : Int32} {x2 : Int32} (K : Kp Q G) (h_z : Q z) (g_h0 : G h0) : LkP Q (fn_X5_setFunction F sh n z h0 x0 x1 x2) := by
  unfold fn_X5_setFunction
  exact (LkP.ite (LkP.ret h_z) (LkP.ite (LkP.ret h_z) (LkP.xg (LkP.xl (fun k_4 q => have g_k_4 := K.2.2.2.2.2 _ _ _ _ h_z g_h0 q; (LkP.xg (LkP.lts (K.1 _ _ _ _ h_z g_k_4) (fun z_7 h_z_7 => (LkP.ret h_z_7)))))))))
theorem lkp_fn_X5_setStructure {F : Nat} {sh : Nat → Nat × Nat} {n : Nat} {z : St} {h0 : Nat} {x0 : Int32} {x1 : Int32} {x2 : Int32} (K : Kp Q G) (h_z : Q z) (g_h0 : G h0) : LkP Q (fn_X5_setStructure F sh n z h0 x0 x1 x2) := by
  unfold fn_X5_setStructure
  exact (LkP.ite (LkP.ret h_z) (LkP.ite (LkP.ret h_z) (LkP.xg (LkP.xl (fun k_4 q => have g_k_4 := K.2.2.2.2.2 _ _ _ _ h_z g_h0 q; (LkP.xg (LkP.lts (K.1 _ _ _ _ h_z g_k_4) (fun z_7 h_z_7 => (LkP.ret h_z_7)))))))))
theorem lkp_fn_X10_cut_B10 {F : Nat} {sh : Nat → Nat × Nat} {n : Nat} {x0 : Int32} {h0 : Nat} {z_1 : St} (K : Kp Q G) (h_z_1 : Q z_1) (g_h0 : G h0) : LkP Q (fn_X10_cut_B10 F sh n x0 h0 z_1) := by
  unfold fn_X10_cut_B10
  exact (LkP.ite (LkP.xg (LkP.lts (K.2.1 _ _ _ _ h_z_1 g_h0) (fun z_5 h_z_5 => (LkP.ret h_z_5)))) (LkP.ret h_z_1))
theorem lkp_fn_X10_cut {F : Nat} {sh : Nat → Nat × Nat} {n : Nat} {z : St} {h0 : Nat} {x0 : Int32} (K : Kp Q G) (h_z : Q z) (g_h0 : G h0) : LkP Q (fn_X10_cut F sh n z h0 x0) := by
  unfold fn_X10_cut
  exact (LkP.ite (lkp_fn_X10_cut_B10 K h_z g_h0) (LkP.xg (LkP.lts (K.2.1 _ _ _ _ h_z g_h0) (fun z_9 h_z_9 => (lkp_fn_X10_cut_B10 K h_z_9 g_h0)))))
theorem lkp_fn_X13_isNumber {F : Nat} {sh : Nat → Nat × Nat} {n : Nat} {z : St} {x0 : Int64} (K : Kp Q G) (h_z : Q z) : LkP Q (fn_X13_isNumber F sh n z x0) := by
  unfold fn_X13_isNumber
  exact (LkP.ite (LkP.ret h_z) (LkP.ite (LkP.ret h_z) (LkP.ite (LkP.ret h_z) (LkP.ret h_z))))
theorem lkp_fn_X18_endsInStructure {F : Nat} {sh : Nat → Nat × Nat} {n : Nat} {z : St} {x0 : Int64} (K : Kp Q G) (h_z : Q z) : LkP Q (fn_X18_endsInStructure F sh n z x0) := by
  unfold fn_X18_endsInStructure
  exact (LkP.ite (LkP.ret h_z) (LkP.ite (LkP.ret h_z) (LkP.ret h_z)))
theorem lkp_fn_X7_freeSlot_L2 {F : Nat} {sh : Nat → Nat × Nat} {n : Nat} {h0 : Nat} (K : Kp Q G) (g_h0 : G h0) : ∀ (f : Nat) (v1 : St) (v2 : Int32), Q v1 → LkP Q (fn_X7_freeSlot_L2 F sh n h0 f v1 v2) := by
  intro f
  induction f with
  | zero => intros; exact LkP.none
  | succ f_3 ih =>
    intro z_2 p_1 h_z_2
    exact (LkP.ite (LkP.ret h_z_2) (LkP.xg (LkP.xl (fun k_6 q => have g_k_6 := K.2.2.2.2.2 _ _ _ _ h_z_2 g_h0 q; (LkP.xg (LkP.ite (LkP.ret h_z_2) (ih _ _ h_z_2 )))))))
theorem lkp_fn_X7_freeSlot {F : Nat} {sh : Nat → Nat × Nat} {n : Nat} {z : St} {h0 : Nat} (K : Kp Q G) (h_z : Q z) (g_h0 : G h0) : LkP Q (fn_X7_freeSlot F sh n z h0) := by
  unfold fn_X7_freeSlot
  exact (lkp_fn_X7_freeSlot_L2 K g_h0 _ _ _ h_z )
theorem lkp_fn_X11_weave {F : Nat} {sh : Nat → Nat × Nat} {n : Nat} {z : St} {h0 : Nat} {x0 : Int64} (K : Kp Q G) (h_z : Q z) (g_h0 : G h0) : LkP Q (fn_X11_weave F sh n z h0 x0) := by
  unfold fn_X11_weave
  exact (LkP.xg (LkP.ite (LkP.lts (K.1 _ _ _ _ h_z g_h0) (fun z_4 h_z_4 => (LkP.ret h_z_4))) (LkP.ret h_z)))
theorem lkp_fn_X13_bytesOf_L2 {F : Nat} {sh : Nat → Nat × Nat} {n : Nat} {x0 : Int64} (K : Kp Q G)  : ∀ (f : Nat) (v1 : St) (v2 : Int32), Q v1 → LkP Q (fn_X13_bytesOf_L2 F sh n x0 f v1 v2) := by
  intro f
  induction f with
  | zero => intros; exact LkP.none
  | succ f_3 ih =>
    intro z_2 p_1 h_z_2
    exact (LkP.ite (LkP.ret h_z_2) (LkP.ite (LkP.ret h_z_2) (ih _ _ h_z_2 )))
theorem lkp_fn_X13_bytesOf {F : Nat} {sh : Nat → Nat × Nat} {n : Nat} {z : St} {x0 : Int64} (K : Kp Q G) (h_z : Q z) : LkP Q (fn_X13_bytesOf F sh n z x0) := by
  unfold fn_X13_bytesOf
  exact (lkp_fn_X13_bytesOf_L2 K  _ _ _ h_z )
theorem lkp_fn_X18_weave {F : Nat} {sh : Nat → Nat × Nat} {n : Nat} {z : St} {h0 : Nat} {x0 : Int64} (K : Kp Q G) (h_z : Q z) (g_h0 : G h0) : LkP Q (fn_X18_weave F sh n z h0 x0) := by
  unfold fn_X18_weave
  exact (LkP.xg (LkP.ite (LkP.lts (K.1 _ _ _ _ h_z g_h0) (fun z_4 h_z_4 => (LkP.ret h_z_4))) (LkP.ret h_z)))
theorem lkp_fn_X5_structureColumn {F : Nat} {sh : Nat → Nat × Nat} {n : Nat} {z : St} {h0 : Nat} {x0 : Int32} {x1 : Int32} (K : Kp Q G) (h_z : Q z) (g_h0 : G h0) : LkP Q (fn_X5_structureColumn F sh n z h0 x0 x1) := by
  unfold fn_X5_structureColumn
  exact (LkP.ite (LkP.ret h_z) (LkP.xg (LkP.ite (LkP.xl (fun k_4 q => have g_k_4 := K.2.2.2.2.2 _ _ _ _ h_z g_h0 q; (LkP.xg (LkP.ret h_z)))) (LkP.ret h_z))))
theorem lkp_fn_X12_byteOf {F : Nat} {sh : Nat → Nat × Nat} {n : Nat} {z : St} {h0 : Nat} {x0 : Int32} (K : Kp Q G) (h_z : Q z) (g_h0 : G h0) : LkP Q (fn_X12_byteOf F sh n z h0 x0) := by
  unfold fn_X12_byteOf
  exact (LkP.xg (LkP.xl (fun k_2 q => have g_k_2 := K.2.2.2.2.2 _ _ _ _ h_z g_h0 q; (LkP.xg (LkP.ret h_z)))))
theorem lkp_fn_X12_four {F : Nat} {sh : Nat → Nat × Nat} {n : Nat} {z : St} {h0 : Nat} {x0 : Int32} (K : Kp Q G) (h_z : Q z) (g_h0 : G h0) : LkP Q (fn_X12_four F sh n z h0 x0) := by
  unfold fn_X12_four
  exact (LkP.xg (LkP.xl (fun k_2 q => have g_k_2 := K.2.2.2.2.2 _ _ _ _ h_z g_h0 q; (LkP.xg (LkP.xl (fun k_4 q => have g_k_4 := K.2.2.2.2.2 _ _ _ _ h_z g_h0 q; (LkP.xg (LkP.ret h_z))))))))
theorem lkp_fn_X14_order {F : Nat} {sh : Nat → Nat × Nat} {n : Nat} {z : St} {x0 : Int64} {x1 : Int64} (K : Kp Q G) (h_z : Q z) : LkP Q (fn_X14_order F sh n z x0 x1) := by
  unfold fn_X14_order
  exact (LkP.ite (LkP.ret h_z) (LkP.ite (LkP.ret h_z) (LkP.ret h_z)))
theorem lkp_fn_X5_addStart {F : Nat} {sh : Nat → Nat × Nat} {n : Nat} {z : St} {h0 : Nat} {x0 : Int32} (K : Kp Q G) (h_z : Q z) (g_h0 : G h0) : LkP Q (fn_X5_addStart F sh n z h0 x0) := by
  unfold fn_X5_addStart
  exact (LkP.xg (LkP.xl (fun k_2 q => have g_k_2 := K.2.2.2.2.2 _ _ _ _ h_z g_h0 q; (LkP.xg (LkP.ite (LkP.ret h_z) (LkP.xl (fun k_5 q => have g_k_5 := K.2.2.2.2.2 _ _ _ _ h_z g_h0 q; (LkP.ltv (fun v_6 => (LkP.lts (K.1 _ _ _ _ h_z g_h0) (fun z_8 h_z_8 => (LkP.xg (LkP.lts (K.1 _ _ _ _ h_z_8 g_k_5) (fun z_11 h_z_11 => (LkP.ret h_z_11)))))))))))))))
theorem lkp_fn_X5_addType {F : Nat} {sh : Nat → Nat × Nat} {n : Nat} {z : St} {h0 : Nat} {x0 : Int64} (K : Kp Q G) (h_z : Q z) (g_h0 : G h0) : LkP Q (fn_X5_addType F sh n z h0 x0) := by
  unfold fn_X5_addType
  exact (LkP.xg (LkP.xl (fun k_2 q => have g_k_2 := K.2.2.2.2.2 _ _ _ _ h_z g_h0 q; (LkP.xg (LkP.ite (LkP.ret h_z) (LkP.xl (fun k_5 q => have g_k_5 := K.2.2.2.2.2 _ _ _ _ h_z g_h0 q; (LkP.ltv (fun v_6 => (LkP.lts (K.1 _ _ _ _ h_z g_h0) (fun z_8 h_z_8 => (LkP.xg (LkP.lts (K.2.1 _ _ _ _ h_z_8 g_k_5) (fun z_11 h_z_11 => (LkP.ret h_z_11)))))))))))))))
theorem lkp_fn_X15_count_L9 {F : Nat} {sh : Nat → Nat × Nat} {n : Nat} {h0 : Nat} (K : Kp Q G) (g_h0 : G h0) : ∀ (f : Nat) (v1 : St) (v2 : Int32) (v3 : Int32), Q v1 → LkP Q (fn_X15_count_L9 F sh n h0 f v1 v2 v3) := by
  intro f
  induction f with
  | zero => intros; exact LkP.none
  | succ f_8 ih =>
    intro z_7 p_5 p_6 h_z_7
    exact (LkP.ite (LkP.ret h_z_7) (LkP.xl (fun k_10 q => have g_k_10 := K.2.2.2.2.2 _ _ _ _ h_z_7 g_h0 q; (LkP.xg (LkP.ltv (fun v_12 => (ih _ _ _ h_z_7 )))))))
theorem lkp_fn_X15_count {F : Nat} {sh : Nat → Nat × Nat} {n : Nat} {z : St} {h0 : Nat} {x0 : Int32} (K : Kp Q G) (h_z : Q z) (g_h0 : G h0) : LkP Q (fn_X15_count F sh n z h0 x0) := by
  unfold fn_X15_count
  exact (LkP.xg (LkP.xl (fun k_2 q => have g_k_2 := K.2.2.2.2.2 _ _ _ _ h_z g_h0 q; (LkP.xg (LkP.ltv (fun v_4 => (lkp_fn_X15_count_L9 K g_h0 _ _ _ _ h_z )))))))
theorem lkp_fn_X5_head_L3 {F : Nat} {sh : Nat → Nat × Nat} {n : Nat} {x0 : Int64} (K : Kp Q G)  : ∀ (f : Nat) (v1 : St) (v2 : Int32), Q v1 → LkP Q (fn_X5_head_L3 F sh n x0 f v1 v2) := by
  intro f
  induction f with
  | zero => intros; exact LkP.none
  | succ f_3 ih =>
    intro z_2 p_1 h_z_2
    exact (LkP.ite (LkP.ret h_z_2) (LkP.ite (ih _ _ h_z_2 ) (LkP.ret h_z_2)))
theorem lkp_fn_X5_head {F : Nat} {sh : Nat → Nat × Nat} {n : Nat} {z : St} {x0 : Int64} (K : Kp Q G) (h_z : Q z) : LkP Q (fn_X5_head F sh n z x0) := by
  unfold fn_X5_head
  exact (lkp_fn_X5_head_L3 K  _ _ _ h_z )
theorem lkp_fn_X7_allBalances_L4 {F : Nat} {sh : Nat → Nat × Nat} {n : Nat} {h0 : Nat} (K : Kp Q G) (g_h0 : G h0) : ∀ (f : Nat) (v1 : St) (v2 : Int64) (v3 : Int32), Q v1 → LkP Q (fn_X7_allBalances_L4 F sh n h0 f v1 v2 v3) := by
  intro f
  induction f with
  | zero => intros; exact LkP.none
  | succ f_4 ih =>
    intro z_3 p_1 p_2 h_z_3
    exact (LkP.xg (LkP.ite (LkP.ret h_z_3) (LkP.xl (fun k_7 q => have g_k_7 := K.2.2.2.2.2 _ _ _ _ h_z_3 g_h0 q; (LkP.xg (LkP.ltv (fun v_9 => (ih _ _ _ h_z_3 ))))))))
theorem lkp_fn_X7_allBalances {F : Nat} {sh : Nat → Nat × Nat} {n : Nat} {z : St} {h0 : Nat} (K : Kp Q G) (h_z : Q z) (g_h0 : G h0) : LkP Q (fn_X7_allBalances F sh n z h0) := by
  unfold fn_X7_allBalances
  exact (lkp_fn_X7_allBalances_L4 K g_h0 _ _ _ _ h_z )
theorem lkp_fn_X7_findAccount_L2 {F : Nat} {sh : Nat → Nat × Nat} {n : Nat} {h0 : Nat} {x0 : Int64} (K : Kp Q G) (g_h0 : G h0) : ∀ (f : Nat) (v1 : St) (v2 : Int32), Q v1 → LkP Q (fn_X7_findAccount_L2 F sh n h0 x0 f v1 v2) := by
  intro f
  induction f with
  | zero => intros; exact LkP.none
  | succ f_3 ih =>
    intro z_2 p_1 h_z_2
    exact (LkP.xg (LkP.ite (LkP.ret h_z_2) (LkP.xl (fun k_6 q => have g_k_6 := K.2.2.2.2.2 _ _ _ _ h_z_2 g_h0 q; (LkP.xg (LkP.ite (LkP.ret h_z_2) (ih _ _ h_z_2 )))))))
theorem lkp_fn_X7_findAccount {F : Nat} {sh : Nat → Nat × Nat} {n : Nat} {z : St} {h0 : Nat} {x0 : Int64} (K : Kp Q G) (h_z : Q z) (g_h0 : G h0) : LkP Q (fn_X7_findAccount F sh n z h0 x0) := by
  unfold fn_X7_findAccount
  exact (lkp_fn_X7_findAccount_L2 K g_h0 _ _ _ h_z )
theorem lkp_fn_X17_isOf {F : Nat} {sh : Nat → Nat × Nat} {n : Nat} {z : St} {x0 : Int64} {x1 : Int64} {x2 : Int32} (K : Kp Q G) (h_z : Q z) : LkP Q (fn_X17_isOf F sh n z x0 x1 x2) := by
  unfold fn_X17_isOf
  exact (LkP.ite (LkP.ret h_z) (LkP.ite (LkP.ite (LkP.ret h_z) (LkP.ite (LkP.ret h_z) (LkP.ret h_z))) (LkP.ret h_z)))
theorem lkp_fn_X0_part {F : Nat} {sh : Nat → Nat × Nat} {n : Nat} {z : St} {h0 : Nat} {x0 : Int32} (K : Kp Q G) (h_z : Q z) (g_h0 : G h0) : LkP Q (fn_X0_part F sh n z h0 x0) := by
  unfold fn_X0_part
  exact (LkP.xg (LkP.xl (fun k_2 q => have g_k_2 := K.2.2.2.2.2 _ _ _ _ h_z g_h0 q; (LkP.xg (LkP.xl (fun k_4 q => have g_k_4 := K.2.2.2.2.2 _ _ _ _ h_z g_h0 q; (LkP.xg (LkP.ret h_z))))))))
theorem lkp_fn_X7_findProgram_L2 {F : Nat} {sh : Nat → Nat × Nat} {n : Nat} {h0 : Nat} {x0 : Int32} (K : Kp Q G) (g_h0 : G h0) : ∀ (f : Nat) (v1 : St) (v2 : Int32), Q v1 → LkO Q G (fn_X7_findProgram_L2 F sh n h0 x0 f v1 v2) := by
  intro f
  induction f with
  | zero => intros; exact LkO.none
  | succ f_3 ih =>
    intro z_2 p_1 h_z_2
    exact (LkO.xg (LkO.ite (LkO.ret h_z_2 none_q) (LkO.xl (fun k_6 q => have g_k_6 := K.2.2.2.2.2 _ _ _ _ h_z_2 g_h0 q; (LkO.xg (LkO.xl (fun k_8 q => have g_k_8 := K.2.2.2.2.2 _ _ _ _ h_z_2 g_k_6 q; (LkO.xg (LkO.ite (LkO.xl (fun k_11 q => have g_k_11 := K.2.2.2.2.2 _ _ _ _ h_z_2 g_h0 q; (LkO.xg (LkO.xl (fun k_13 q => have g_k_13 := K.2.2.2.2.2 _ _ _ _ h_z_2 g_k_11 q; (LkO.ret h_z_2 (some_q g_k_13))))))) (ih _ _ h_z_2 ))))))))))
theorem lkp_fn_X7_findProgram {F : Nat} {sh : Nat → Nat × Nat} {n : Nat} {z : St} {h0 : Nat} {x0 : Int32} (K : Kp Q G) (h_z : Q z) (g_h0 : G h0) : LkO Q G (fn_X7_findProgram F sh n z h0 x0) := by
  unfold fn_X7_findProgram
  exact (lkp_fn_X7_findProgram_L2 K g_h0 _ _ _ h_z )
theorem lkp_fn_X18_findAccount_B27 {F : Nat} {sh : Nat → Nat × Nat} {n : Nat} {h0 : Nat} {z_6 : St} {p_5 : Int32} (K : Kp Q G) (h_z_6 : Q z_6) (g_h0 : G h0) : LkP Q (fn_X18_findAccount_B27 F sh n h0 z_6 p_5) := by
  unfold fn_X18_findAccount_B27
  exact (LkP.ite (LkP.ret h_z_6) (LkP.ret h_z_6))
theorem lkp_fn_X18_findAccount_L2 {F : Nat} {sh : Nat → Nat × Nat} {n : Nat} {h0 : Nat} {x0 : Int64} (K : Kp Q G) (g_h0 : G h0) : ∀ (f : Nat) (v1 : St) (v2 : Int32), Q v1 → LkP Q (fn_X18_findAccount_L2 F sh n h0 x0 f v1 v2) := by
  intro f
  induction f with
  | zero => intros; exact LkP.none
  | succ f_3 ih =>
    intro z_2 p_1 h_z_2
    exact (LkP.xg (LkP.ite (lkp_fn_X18_findAccount_B27 K h_z_2 g_h0) (LkP.xl (fun k_9 q => have g_k_9 := K.2.2.2.2.2 _ _ _ _ h_z_2 g_h0 q; (LkP.xg (LkP.ite (lkp_fn_X18_findAccount_B27 K h_z_2 g_h0) (ih _ _ h_z_2 )))))))
theorem lkp_fn_X18_findAccount {F : Nat} {sh : Nat → Nat × Nat} {n : Nat} {z : St} {h0 : Nat} {x0 : Int64} (K : Kp Q G) (h_z : Q z) (g_h0 : G h0) : LkP Q (fn_X18_findAccount F sh n z h0 x0) := by
  unfold fn_X18_findAccount
  exact (lkp_fn_X18_findAccount_L2 K g_h0 _ _ _ h_z )
theorem lkp_fn_X15_sizeOf_L9 {F : Nat} {sh : Nat → Nat × Nat} {n : Nat} {rec : St → Nat → Int32 → Option (St × Int32)} {h0 : Nat} (K : Kp Q G) (g_h0 : G h0) (hko_rec : ∀ (w0 : St) (w1 : Nat) (w2 : Int32), Q w0 → G w1 → LkP Q (rec w0 w1 w2)) : ∀ (f : Nat) (v1 : St) (v2 : Int32) (v3 : Int32), Q v1 → LkP Q (fn_X15_sizeOf_L9 F sh n rec h0 f v1 v2 v3) := by
  intro f
  induction f with
  | zero => intros; exact LkP.none
  | succ f_8 ih =>
    intro z_7 p_5 p_6 h_z_7
    exact (LkP.ite (LkP.ret h_z_7) (LkP.xc (hko_rec _ _ _ h_z_7 g_h0) (fun z_10 r_11 h_z_10 => (LkP.ltv (fun v_13 => (LkP.xl (fun k_14 q => have g_k_14 := K.2.2.2.2.2 _ _ _ _ h_z_10 g_h0 q; (LkP.xg (LkP.ltv (fun v_16 => (ih _ _ _ h_z_10 )))))))))))
theorem lkp_fn_X15_sizeOf {F : Nat} {sh : Nat → Nat × Nat} {n : Nat} (K : Kp Q G)  : ∀ (f : Nat) (v1 : St) (v2 : Nat) (v3 : Int32), Q v1 → G v2 → LkP Q (fn_X15_sizeOf F sh n f v1 v2 v3) := by
  intro f
  induction f with
  | zero => intros; exact LkP.none
  | succ d ih =>
    intro z h0 x0 h_z g_h0
    exact (LkP.xg (LkP.xl (fun k_2 q => have g_k_2 := K.2.2.2.2.2 _ _ _ _ h_z g_h0 q; (LkP.xg (LkP.ltv (fun v_4 => (lkp_fn_X15_sizeOf_L9 K g_h0 (fun w0 w1 w2 hw gw1 => ih w0 w1 w2 hw gw1) _ _ _ _ h_z )))))))
theorem lkp_fn_X3_setLocal {F : Nat} {sh : Nat → Nat × Nat} {n : Nat} {z : St} {h0 : Nat} {x0 : Int32} {x1 : Int64} {x2 : Int32} (K : Kp Q G) (h_z : Q z) (g_h0 : G h0) : LkP Q (fn_X3_setLocal F sh n z h0 x0 x1 x2) := by
  unfold fn_X3_setLocal
  exact (LkP.xg (LkP.xl (fun k_2 q => have g_k_2 := K.2.2.2.2.2 _ _ _ _ h_z g_h0 q; (LkP.xg (LkP.lts (K.2.1 _ _ _ _ h_z g_k_2) (fun z_5 h_z_5 => (LkP.ite (LkP.lts (K.2.1 _ _ _ _ h_z_5 g_h0) (fun z_8 h_z_8 => (LkP.ret h_z_8))) (LkP.lts (K.2.1 _ _ _ _ h_z_5 g_h0) (fun z_10 h_z_10 => (LkP.ret h_z_10))))))))))
theorem lkp_fn_X8_lay {F : Nat} {sh : Nat → Nat × Nat} {n : Nat} {z : St} {h0 : Nat} {x0 : Int64} {x1 : Int64} {x2 : Int32} (K : Kp Q G) (h_z : Q z) (g_h0 : G h0) : LkP Q (fn_X8_lay F sh n z h0 x0 x1 x2) := by
  unfold fn_X8_lay
  exact (LkP.xg (LkP.lts (K.1 _ _ _ _ h_z g_h0) (fun z_3 h_z_3 => (LkP.lts (K.2.1 _ _ _ _ h_z_3 g_h0) (fun z_5 h_z_5 => (LkP.lts (K.2.1 _ _ _ _ h_z_5 g_h0) (fun z_7 h_z_7 => (LkP.lts (K.1 _ _ _ _ h_z_7 g_h0) (fun z_9 h_z_9 => (LkP.lts (K.1 _ _ _ _ h_z_9 g_h0) (fun z_11 h_z_11 => (LkP.lts (K.1 _ _ _ _ h_z_11 g_h0) (fun z_13 h_z_13 => (LkP.lts (K.1 _ _ _ _ h_z_13 g_h0) (fun z_15 h_z_15 => (LkP.lts (K.2.2.1 _ _ _ _ h_z_15 g_h0 none_q) (fun z_17 h_z_17 => (LkP.ret h_z_17))))))))))))))))))
theorem lkp_fn_X10_fits {F : Nat} {sh : Nat → Nat × Nat} {n : Nat} {z : St} {h0 : Nat} {x0 : Int32} (K : Kp Q G) (h_z : Q z) (g_h0 : G h0) : LkP Q (fn_X10_fits F sh n z h0 x0) := by
  unfold fn_X10_fits
  exact (LkP.xg (LkP.ite (LkP.ite (LkP.ret h_z) (LkP.ite (LkP.ite (LkP.ret h_z) (LkP.ite (LkP.ret h_z) (LkP.ret h_z))) (LkP.ret h_z))) (LkP.ret h_z)))
theorem lkp_fn_X18_coinMany {F : Nat} {sh : Nat → Nat × Nat} {n : Nat} {z : St} {x0 : Int32} {x1 : Int32} (K : Kp Q G) (h_z : Q z) : LkP Q (fn_X18_coinMany F sh n z x0 x1) := by
  unfold fn_X18_coinMany
  exact (LkP.ite (LkP.ite (LkP.ret h_z) (LkP.ite (LkP.ret h_z) (LkP.ite (LkP.ret h_z) (LkP.ret h_z)))) (LkP.ite (LkP.ret h_z) (LkP.ite (LkP.ret h_z) (LkP.ret h_z))))
theorem lkp_fn_X7_openAccount {F : Nat} {sh : Nat → Nat × Nat} {n : Nat} {z : St} {h0 : Nat} {x0 : Int64} (K : Kp Q G) (h_z : Q z) (g_h0 : G h0) : LkP Q (fn_X7_openAccount F sh n z h0 x0) := by
  unfold fn_X7_openAccount
  exact (LkP.xg (LkP.ltv (fun v_2 => (LkP.xl (fun k_3 q => have g_k_3 := K.2.2.2.2.2 _ _ _ _ h_z g_h0 q; (LkP.xg (LkP.lts (K.2.1 _ _ _ _ h_z g_k_3) (fun z_6 h_z_6 => (LkP.xl (fun k_7 q => have g_k_7 := K.2.2.2.2.2 _ _ _ _ h_z_6 g_h0 q; (LkP.xg (LkP.lts (K.2.1 _ _ _ _ h_z_6 g_k_7) (fun z_10 h_z_10 => (LkP.xl (fun k_11 q => have g_k_11 := K.2.2.2.2.2 _ _ _ _ h_z_10 g_h0 q; (LkP.xg (LkP.lts (K.2.1 _ _ _ _ h_z_10 g_k_11) (fun z_14 h_z_14 => (LkP.lts (K.1 _ _ _ _ h_z_14 g_h0) (fun z_16 h_z_16 => (LkP.ret h_z_16)))))))))))))))))))))
theorem lkp_fn_X1_assign {F : Nat} {sh : Nat → Nat × Nat} {n : Nat} {z : St} {h0 : Nat} {x0 : Int32} {x1 : Int32} (K : Kp Q G) (h_z : Q z) (g_h0 : G h0) : LkP Q (fn_X1_assign F sh n z h0 x0 x1) := by
  unfold fn_X1_assign
  exact (LkP.ite (LkP.ret h_z) (LkP.xg (LkP.xl (fun k_3 q => have g_k_3 := K.2.2.2.2.2 _ _ _ _ h_z g_h0 q; (LkP.xl (fun k_4 q => have g_k_4 := K.2.2.2.2.2 _ _ _ _ h_z g_h0 q; (LkP.xg (LkP.xg (LkP.lts (K.1 _ _ _ _ h_z g_k_3) (fun z_8 h_z_8 => (LkP.xl (fun k_9 q => have g_k_9 := K.2.2.2.2.2 _ _ _ _ h_z_8 g_h0 q; (LkP.xl (fun k_10 q => have g_k_10 := K.2.2.2.2.2 _ _ _ _ h_z_8 g_h0 q; (LkP.xg (LkP.xg (LkP.lts (K.2.1 _ _ _ _ h_z_8 g_k_9) (fun z_14 h_z_14 => (LkP.xl (fun k_15 q => have g_k_15 := K.2.2.2.2.2 _ _ _ _ h_z_14 g_h0 q; (LkP.xl (fun k_16 q => have g_k_16 := K.2.2.2.2.2 _ _ _ _ h_z_14 g_h0 q; (LkP.xg (LkP.xg (LkP.lts (K.2.1 _ _ _ _ h_z_14 g_k_15) (fun z_20 h_z_20 => (LkP.ret h_z_20)))))))))))))))))))))))))))
theorem lkp_fn_X18_findResource_B41 {F : Nat} {sh : Nat → Nat × Nat} {n : Nat} {h0 : Nat} {z_6 : St} {p_5 : Int32} (K : Kp Q G) (h_z_6 : Q z_6) (g_h0 : G h0) : LkP Q (fn_X18_findResource_B41 F sh n h0 z_6 p_5) := by
  unfold fn_X18_findResource_B41
  exact (LkP.ite (LkP.ret h_z_6) (LkP.ret h_z_6))
theorem lkp_fn_X18_findResource_B35 {F : Nat} {sh : Nat → Nat × Nat} {n : Nat} {p_1 : Int32} {ko3 : St → Int32 → Option (St × Int32)} {z_11 : St} (K : Kp Q G) (h_z_11 : Q z_11) (hko_ko3 : ∀ (w0 : St) (w1 : Int32), Q w0 → LkP Q (ko3 w0 w1)) : LkP Q (fn_X18_findResource_B35 F sh n p_1 ko3 z_11) := by
  unfold fn_X18_findResource_B35
  exact (hko_ko3 _ _ h_z_11 )
theorem lkp_fn_X18_findResource_L3 {F : Nat} {sh : Nat → Nat × Nat} {n : Nat} {h0 : Nat} {x0 : Int64} {x1 : Int32} (K : Kp Q G) (g_h0 : G h0) : ∀ (f : Nat) (v1 : St) (v2 : Int32), Q v1 → LkP Q (fn_X18_findResource_L3 F sh n h0 x0 x1 f v1 v2) := by
  intro f
  induction f with
  | zero => intros; exact LkP.none
  | succ f_3 ih =>
    intro z_2 p_1 h_z_2
    exact (LkP.xg (LkP.ite (lkp_fn_X18_findResource_B41 K h_z_2 g_h0) (LkP.xl (fun k_9 q => have g_k_9 := K.2.2.2.2.2 _ _ _ _ h_z_2 g_h0 q; (LkP.xg (LkP.ite (LkP.xl (fun k_13 q => have g_k_13 := K.2.2.2.2.2 _ _ _ _ h_z_2 g_h0 q; (LkP.xg (LkP.ite (lkp_fn_X18_findResource_B41 K h_z_2 g_h0) (lkp_fn_X18_findResource_B35 K h_z_2 (fun z9 q4 hk_z9 => (ih _ _ hk_z9 ))))))) (lkp_fn_X18_findResource_B35 K h_z_2 (fun z9 q4 hk_z9 => (ih _ _ hk_z9 )))))))))
theorem lkp_fn_X18_findResource {F : Nat} {sh : Nat → Nat × Nat} {n : Nat} {z : St} {h0 : Nat} {x0 : Int64} {x1 : Int32} (K : Kp Q G) (h_z : Q z) (g_h0 : G h0) : LkP Q (fn_X18_findResource F sh n z h0 x0 x1) := by
  unfold fn_X18_findResource
  exact (lkp_fn_X18_findResource_L3 K g_h0 _ _ _ h_z )
theorem lkp_fn_X18_newAccount {F : Nat} {sh : Nat → Nat × Nat} {n : Nat} {z : St} {h0 : Nat} {x0 : Int64} (K : Kp Q G) (h_z : Q z) (g_h0 : G h0) : LkP Q (fn_X18_newAccount F sh n z h0 x0) := by
  unfold fn_X18_newAccount
  exact (LkP.xg (LkP.xl (fun k_2 q => have g_k_2 := K.2.2.2.2.2 _ _ _ _ h_z g_h0 q; (LkP.xg (LkP.lts (K.2.1 _ _ _ _ h_z g_k_2) (fun z_5 h_z_5 => (LkP.xl (fun k_6 q => have g_k_6 := K.2.2.2.2.2 _ _ _ _ h_z_5 g_h0 q; (LkP.xg (LkP.lts (K.2.1 _ _ _ _ h_z_5 g_k_6) (fun z_9 h_z_9 => (LkP.xl (fun k_10 q => have g_k_10 := K.2.2.2.2.2 _ _ _ _ h_z_9 g_h0 q; (LkP.xg (LkP.lts (K.2.1 _ _ _ _ h_z_9 g_k_10) (fun z_13 h_z_13 => (LkP.lts (K.1 _ _ _ _ h_z_13 g_h0) (fun z_15 h_z_15 => (LkP.ret h_z_15)))))))))))))))))))
theorem lkp_fn_X8_addResult {F : Nat} {sh : Nat → Nat × Nat} {n : Nat} {z : St} {h0 : Nat} {x0 : Int32} {x1 : Int64} {x2 : Int64} (K : Kp Q G) (h_z : Q z) (g_h0 : G h0) : LkP Q (fn_X8_addResult F sh n z h0 x0 x1 x2) := by
  unfold fn_X8_addResult
  exact (LkP.xg (LkP.ite (LkP.ret h_z) (LkP.xl (fun k_3 q => have g_k_3 := K.2.2.2.2.2 _ _ _ _ h_z g_h0 q; (LkP.xg (LkP.lts (K.1 _ _ _ _ h_z g_k_3) (fun z_6 h_z_6 => (LkP.xl (fun k_7 q => have g_k_7 := K.2.2.2.2.2 _ _ _ _ h_z_6 g_h0 q; (LkP.xg (LkP.lts (K.2.1 _ _ _ _ h_z_6 g_k_7) (fun z_10 h_z_10 => (LkP.xl (fun k_11 q => have g_k_11 := K.2.2.2.2.2 _ _ _ _ h_z_10 g_h0 q; (LkP.xg (LkP.lts (K.2.1 _ _ _ _ h_z_10 g_k_11) (fun z_14 h_z_14 => (LkP.lts (K.1 _ _ _ _ h_z_14 g_h0) (fun z_16 h_z_16 => (LkP.ret h_z_16))))))))))))))))))))
theorem lkp_fn_X14_isAt_B39 {F : Nat} {sh : Nat → Nat × Nat} {n : Nat} {p_2 : Int32} {ko5 : St → Int32 → Int32 → Option (St × Int32)} {z_8 : St} {p_7 : Int32} (K : Kp Q G) (h_z_8 : Q z_8) (hko_ko5 : ∀ (w0 : St) (w1 : Int32) (w2 : Int32), Q w0 → LkP Q (ko5 w0 w1 w2)) : LkP Q (fn_X14_isAt_B39 F sh n p_2 ko5 z_8 p_7) := by
  unfold fn_X14_isAt_B39
  exact (hko_ko5 _ _ _ h_z_8 )
theorem lkp_fn_X14_isAt_B38 {F : Nat} {sh : Nat → Nat × Nat} {n : Nat} {p_2 : Int32} {ko5 : St → Int32 → Int32 → Option (St × Int32)} {z_9 : St} (K : Kp Q G) (h_z_9 : Q z_9) (hko_ko5 : ∀ (w0 : St) (w1 : Int32) (w2 : Int32), Q w0 → LkP Q (ko5 w0 w1 w2)) : LkP Q (fn_X14_isAt_B38 F sh n p_2 ko5 z_9) := by
  unfold fn_X14_isAt_B38
  exact (lkp_fn_X14_isAt_B39 K h_z_9 (fun z9 q3 q4 hk_z9 => (hko_ko5 _ _ _ hk_z9 )))
theorem lkp_fn_X14_isAt_L5 {F : Nat} {sh : Nat → Nat × Nat} {n : Nat} {h0 : Nat} {x0 : Int32} {x1 : Nat} (K : Kp Q G) (g_h0 : G h0) (g_x1 : G x1) : ∀ (f : Nat) (v1 : St) (v2 : Int32) (v3 : Int32), Q v1 → LkP Q (fn_X14_isAt_L5 F sh n h0 x0 x1 f v1 v2 v3) := by
  intro f
  induction f with
  | zero => intros; exact LkP.none
  | succ f_4 ih =>
    intro z_3 p_1 p_2 h_z_3
    exact (LkP.ite (LkP.xg (LkP.ret h_z_3)) (LkP.ite (lkp_fn_X14_isAt_B38 K h_z_3 (fun z9 q3 q4 hk_z9 => (ih _ _ _ hk_z9 ))) (LkP.xg (LkP.xl (fun k_12 q => have g_k_12 := K.2.2.2.2.2 _ _ _ _ h_z_3 g_h0 q; (LkP.xg (LkP.xg (LkP.ite (lkp_fn_X14_isAt_B39 K h_z_3 (fun z9 q3 q4 hk_z9 => (ih _ _ _ hk_z9 ))) (lkp_fn_X14_isAt_B38 K h_z_3 (fun z9 q3 q4 hk_z9 => (ih _ _ _ hk_z9 )))))))))))
theorem lkp_fn_X14_isAt {F : Nat} {sh : Nat → Nat × Nat} {n : Nat} {z : St} {h0 : Nat} {x0 : Int32} {x1 : Nat} (K : Kp Q G) (h_z : Q z) (g_h0 : G h0) (g_x1 : G x1) : LkP Q (fn_X14_isAt F sh n z h0 x0 x1) := by
  unfold fn_X14_isAt
  exact (lkp_fn_X14_isAt_L5 K g_h0 g_x1 _ _ _ _ h_z )
theorem lkp_fn_X3_meetsOther_B40 {F : Nat} {sh : Nat → Nat × Nat} {n : Nat} {p_3 : Int32} {ko5 : St → Int32 → Option (St × Int32)} {z_7 : St} (K : Kp Q G) (h_z_7 : Q z_7) (hko_ko5 : ∀ (w0 : St) (w1 : Int32), Q w0 → LkP Q (ko5 w0 w1)) : LkP Q (fn_X3_meetsOther_B40 F sh n p_3 ko5 z_7) := by
  unfold fn_X3_meetsOther_B40
  exact (hko_ko5 _ _ h_z_7 )
theorem lkp_fn_X3_meetsOther_L5 {F : Nat} {sh : Nat → Nat × Nat} {n : Nat} {h0 : Nat} {x1 : Int32} {x0 : Int32} (K : Kp Q G) (g_h0 : G h0) : ∀ (f : Nat) (v1 : St) (v2 : Int32), Q v1 → LkP Q (fn_X3_meetsOther_L5 F sh n h0 x1 x0 f v1 v2) := by
  intro f
  induction f with
  | zero => intros; exact LkP.none
  | succ f_5 ih =>
    intro z_4 p_3 h_z_4
    exact (LkP.ite (LkP.ret h_z_4) (LkP.ite (lkp_fn_X3_meetsOther_B40 K h_z_4 (fun z9 q3 hk_z9 => (ih _ _ hk_z9 ))) (LkP.xl (fun k_9 q => have g_k_9 := K.2.2.2.2.2 _ _ _ _ h_z_4 g_h0 q; (LkP.xg (LkP.xl (fun k_11 q => have g_k_11 := K.2.2.2.2.2 _ _ _ _ h_z_4 g_h0 q; (LkP.xg (LkP.ite (lkp_fn_X3_meetsOther_B40 K h_z_4 (fun z9 q3 hk_z9 => (ih _ _ hk_z9 ))) (LkP.ret h_z_4))))))))))
theorem lkp_fn_X3_meetsOther {F : Nat} {sh : Nat → Nat × Nat} {n : Nat} {z : St} {h0 : Nat} {x0 : Int32} {x1 : Int32} (K : Kp Q G) (h_z : Q z) (g_h0 : G h0) : LkP Q (fn_X3_meetsOther F sh n z h0 x0 x1) := by
  unfold fn_X3_meetsOther
  exact (LkP.xg (LkP.ltv (fun v_2 => (lkp_fn_X3_meetsOther_L5 K g_h0 _ _ _ h_z ))))
theorem lkp_fn_X4_peek {F : Nat} {sh : Nat → Nat × Nat} {n : Nat} {z : St} {h0 : Nat} {x0 : Int32} (K : Kp Q G) (h_z : Q z) (g_h0 : G h0) : LkP Q (fn_X4_peek F sh n z h0 x0) := by
  unfold fn_X4_peek
  exact (LkP.xg (LkP.xl (fun k_2 q => have g_k_2 := K.2.2.2.2.2 _ _ _ _ h_z g_h0 q; (LkP.xg (LkP.ltv (fun v_4 => (LkP.ite (LkP.xl (fun k_6 q => have g_k_6 := K.2.2.2.2.2 _ _ _ _ h_z g_h0 q; (LkP.xg (LkP.ret h_z)))) (LkP.xl (fun k_8 q => have g_k_8 := K.2.2.2.2.2 _ _ _ _ h_z g_h0 q; (LkP.xg (LkP.lts (K.1 _ _ _ _ h_z g_k_8) (fun z_11 h_z_11 => (LkP.ret h_z_11)))))))))))))
theorem lkp_fn_X4_target_B28 {F : Nat} {sh : Nat → Nat × Nat} {n : Nat} {h0 : Nat} {z_6 : St} (K : Kp Q G) (h_z_6 : Q z_6) (g_h0 : G h0) : LkP Q (fn_X4_target_B28 F sh n h0 z_6) := by
  unfold fn_X4_target_B28
  exact (LkP.xl (fun k_7 q => have g_k_7 := K.2.2.2.2.2 _ _ _ _ h_z_6 g_h0 q; (LkP.xg (LkP.lts (K.1 _ _ _ _ h_z_6 g_k_7) (fun z_10 h_z_10 => (LkP.ret h_z_10))))))
theorem lkp_fn_X4_target {F : Nat} {sh : Nat → Nat × Nat} {n : Nat} {z : St} {h0 : Nat} {x0 : Int32} (K : Kp Q G) (h_z : Q z) (g_h0 : G h0) : LkP Q (fn_X4_target F sh n z h0 x0) := by
  unfold fn_X4_target
  exact (LkP.xg (LkP.xl (fun k_2 q => have g_k_2 := K.2.2.2.2.2 _ _ _ _ h_z g_h0 q; (LkP.xg (LkP.xl (fun k_4 q => have g_k_4 := K.2.2.2.2.2 _ _ _ _ h_z g_k_2 q; (LkP.xg (LkP.ite (LkP.xl (fun k_12 q => have g_k_12 := K.2.2.2.2.2 _ _ _ _ h_z g_h0 q; (LkP.xg (LkP.xl (fun k_14 q => have g_k_14 := K.2.2.2.2.2 _ _ _ _ h_z g_k_12 q; (LkP.xg (LkP.ite (lkp_fn_X4_target_B28 K h_z g_h0) (LkP.xl (fun k_17 q => have g_k_17 := K.2.2.2.2.2 _ _ _ _ h_z g_h0 q; (LkP.xg (LkP.xl (fun k_19 q => have g_k_19 := K.2.2.2.2.2 _ _ _ _ h_z g_k_17 q; (LkP.xg (LkP.ret h_z)))))))))))))) (lkp_fn_X4_target_B28 K h_z g_h0)))))))))
theorem lkp_fn_X15_part_L19 {F : Nat} {sh : Nat → Nat × Nat} {n : Nat} {x1 : Int64} {h0 : Nat} (K : Kp Q G) (g_h0 : G h0) : ∀ (f : Nat) (v1 : St) (v2 : Int32) (v3 : Int64), Q v1 → LkP Q (fn_X15_part_L19 F sh n x1 h0 f v1 v2 v3) := by
  intro f
  induction f with
  | zero => intros; exact LkP.none
  | succ f_9 ih =>
    intro z_8 p_6 p_7 h_z_8
    exact (LkP.ite (LkP.ret h_z_8) (LkP.ite (LkP.ret h_z_8) (LkP.xl (fun k_12 q => have g_k_12 := K.2.2.2.2.2 _ _ _ _ h_z_8 g_h0 q; (LkP.xg (LkP.ltv (fun v_14 => (LkP.ltv (fun v_15 => (ih _ _ _ h_z_8 ))))))))))
theorem lkp_fn_X15_part {F : Nat} {sh : Nat → Nat × Nat} {n : Nat} {z : St} {h0 : Nat} {x0 : Int32} {x1 : Int64} (K : Kp Q G) (h_z : Q z) (g_h0 : G h0) : LkP Q (fn_X15_part F sh n z h0 x0 x1) := by
  unfold fn_X15_part
  exact (LkP.ite (LkP.xg (LkP.xl (fun k_3 q => have g_k_3 := K.2.2.2.2.2 _ _ _ _ h_z g_h0 q; (LkP.xg (LkP.ltv (fun v_5 => (lkp_fn_X15_part_L19 K g_h0 _ _ _ _ h_z ))))))) (LkP.ret h_z))
theorem lkp_fn_X17_four {F : Nat} {sh : Nat → Nat × Nat} {n : Nat} {z : St} {x0 : Nat} {x1 : Int32} (K : Kp Q G) (h_z : Q z) (g_x0 : G x0) : LkP Q (fn_X17_four F sh n z x0 x1) := by
  unfold fn_X17_four
  exact (LkP.xg (LkP.xg (LkP.xg (LkP.xg (LkP.ret h_z)))))
theorem lkp_fn_X15_become {F : Nat} {sh : Nat → Nat × Nat} {n : Nat} {z : St} {h0 : Nat} {x0 : Int32} {x1 : Int32} (K : Kp Q G) (h_z : Q z) (g_h0 : G h0) : LkP Q (fn_X15_become F sh n z h0 x0 x1) := by
  unfold fn_X15_become
  exact (LkP.xg (LkP.xl (fun k_2 q => have g_k_2 := K.2.2.2.2.2 _ _ _ _ h_z g_h0 q; (LkP.xl (fun k_3 q => have g_k_3 := K.2.2.2.2.2 _ _ _ _ h_z g_h0 q; (LkP.xg (LkP.xg (LkP.lts (K.1 _ _ _ _ h_z g_k_2) (fun z_7 h_z_7 => (LkP.xl (fun k_8 q => have g_k_8 := K.2.2.2.2.2 _ _ _ _ h_z_7 g_h0 q; (LkP.xl (fun k_9 q => have g_k_9 := K.2.2.2.2.2 _ _ _ _ h_z_7 g_h0 q; (LkP.xg (LkP.xg (LkP.lts (K.2.1 _ _ _ _ h_z_7 g_k_8) (fun z_13 h_z_13 => (LkP.xl (fun k_14 q => have g_k_14 := K.2.2.2.2.2 _ _ _ _ h_z_13 g_h0 q; (LkP.xl (fun k_15 q => have g_k_15 := K.2.2.2.2.2 _ _ _ _ h_z_13 g_h0 q; (LkP.xg (LkP.xg (LkP.lts (K.2.1 _ _ _ _ h_z_13 g_k_14) (fun z_19 h_z_19 => (LkP.xl (fun k_20 q => have g_k_20 := K.2.2.2.2.2 _ _ _ _ h_z_19 g_h0 q; (LkP.xl (fun k_21 q => have g_k_21 := K.2.2.2.2.2 _ _ _ _ h_z_19 g_h0 q; (LkP.xg (LkP.xg (LkP.lts (K.1 _ _ _ _ h_z_19 g_k_20) (fun z_25 h_z_25 => (LkP.ret h_z_25))))))))))))))))))))))))))))))))))
theorem lkp_fn_X5_functionColumn_B40 {F : Nat} {sh : Nat → Nat × Nat} {n : Nat} {h0 : Nat} {x1 : Int32} {z_5 : St} {p_4 : Int32} (K : Kp Q G) (h_z_5 : Q z_5) (g_h0 : G h0) : LkP Q (fn_X5_functionColumn_B40 F sh n h0 x1 z_5 p_4) := by
  unfold fn_X5_functionColumn_B40
  exact (LkP.xl (fun k_6 q => have g_k_6 := K.2.2.2.2.2 _ _ _ _ h_z_5 g_h0 q; (LkP.xg (LkP.ret h_z_5))))
theorem lkp_fn_X5_functionColumn {F : Nat} {sh : Nat → Nat × Nat} {n : Nat} {z : St} {h0 : Nat} {x0 : Int32} {x1 : Int32} (K : Kp Q G) (h_z : Q z) (g_h0 : G h0) : LkP Q (fn_X5_functionColumn F sh n z h0 x0 x1) := by
  unfold fn_X5_functionColumn
  exact (LkP.ite (LkP.ret h_z) (LkP.xg (LkP.ite (LkP.ite (lkp_fn_X5_functionColumn_B40 K h_z g_h0) (lkp_fn_X5_functionColumn_B40 K h_z g_h0)) (LkP.ret h_z))))
theorem lkp_fn_X8_addArgument {F : Nat} {sh : Nat → Nat × Nat} {n : Nat} {z : St} {h0 : Nat} {x0 : Int32} {x1 : Int64} {x2 : Int64} (K : Kp Q G) (h_z : Q z) (g_h0 : G h0) : LkP Q (fn_X8_addArgument F sh n z h0 x0 x1 x2) := by
  unfold fn_X8_addArgument
  exact (LkP.xg (LkP.ite (LkP.xl (fun k_3 q => have g_k_3 := K.2.2.2.2.2 _ _ _ _ h_z g_h0 q; (LkP.xg (LkP.lts (K.1 _ _ _ _ h_z g_k_3) (fun z_6 h_z_6 => (LkP.xl (fun k_7 q => have g_k_7 := K.2.2.2.2.2 _ _ _ _ h_z_6 g_h0 q; (LkP.xg (LkP.lts (K.2.1 _ _ _ _ h_z_6 g_k_7) (fun z_10 h_z_10 => (LkP.xl (fun k_11 q => have g_k_11 := K.2.2.2.2.2 _ _ _ _ h_z_10 g_h0 q; (LkP.xg (LkP.lts (K.2.1 _ _ _ _ h_z_10 g_k_11) (fun z_14 h_z_14 => (LkP.lts (K.1 _ _ _ _ h_z_14 g_h0) (fun z_16 h_z_16 => (LkP.ret h_z_16)))))))))))))))))) (LkP.ret h_z)))
theorem lkp_fn_X17_compare {F : Nat} {sh : Nat → Nat × Nat} {n : Nat} {z : St} {x0 : Int64} {x1 : Int64} {x2 : Int64} {x3 : Int64} (K : Kp Q G) (h_z : Q z) : LkP Q (fn_X17_compare F sh n z x0 x1 x2 x3) := by
  unfold fn_X17_compare
  exact (LkP.ite (LkP.ite (LkP.ret h_z) (LkP.ite (LkP.ret h_z) (LkP.ret h_z))) (LkP.ite (LkP.ret h_z) (LkP.ret h_z)))
theorem lkp_fn_X6_readByte {F : Nat} {sh : Nat → Nat × Nat} {n : Nat} {z : St} {h0 : Nat} (K : Kp Q G) (h_z : Q z) (g_h0 : G h0) : LkP Q (fn_X6_readByte F sh n z h0) := by
  unfold fn_X6_readByte
  exact (LkP.xg (LkP.ite (LkP.xl (fun k_3 q => have g_k_3 := K.2.2.2.2.2 _ _ _ _ h_z g_h0 q; (LkP.xg (LkP.ite (LkP.xl (fun k_6 q => have g_k_6 := K.2.2.2.2.2 _ _ _ _ h_z g_h0 q; (LkP.xg (LkP.xl (fun k_8 q => have g_k_8 := K.2.2.2.2.2 _ _ _ _ h_z g_k_6 q; (LkP.ltv (fun v_9 => (LkP.lts (K.1 _ _ _ _ h_z g_h0) (fun z_11 h_z_11 => (LkP.xb (fun v_12 => (LkP.ret h_z_11)))))))))))) (LkP.lts (K.1 _ _ _ _ h_z g_h0) (fun z_14 h_z_14 => (LkP.xl (fun k_15 q => have g_k_15 := K.2.2.2.2.2 _ _ _ _ h_z_14 g_h0 q; (LkP.xg (LkP.lts (K.1 _ _ _ _ h_z_14 g_h0) (fun z_18 h_z_18 => (LkP.ret h_z_18)))))))))))) (LkP.ret h_z)))
theorem lkp_fn_X7_findResource_B59 {F : Nat} {sh : Nat → Nat × Nat} {n : Nat} {p_1 : Int32} {ko3 : St → Int32 → Option (St × Int32)} {z_8 : St} (K : Kp Q G) (h_z_8 : Q z_8) (hko_ko3 : ∀ (w0 : St) (w1 : Int32), Q w0 → LkP Q (ko3 w0 w1)) : LkP Q (fn_X7_findResource_B59 F sh n p_1 ko3 z_8) := by
  unfold fn_X7_findResource_B59
  exact (hko_ko3 _ _ h_z_8 )
theorem lkp_fn_X7_findResource_L3 {F : Nat} {sh : Nat → Nat × Nat} {n : Nat} {h0 : Nat} {x0 : Int64} {x1 : Int32} {x2 : Int32} (K : Kp Q G) (g_h0 : G h0) : ∀ (f : Nat) (v1 : St) (v2 : Int32), Q v1 → LkP Q (fn_X7_findResource_L3 F sh n h0 x0 x1 x2 f v1 v2) := by
  intro f
  induction f with
  | zero => intros; exact LkP.none
  | succ f_3 ih =>
    intro z_2 p_1 h_z_2
    exact (LkP.ite (LkP.ret h_z_2) (LkP.xg (LkP.xl (fun k_6 q => have g_k_6 := K.2.2.2.2.2 _ _ _ _ h_z_2 g_h0 q; (LkP.xg (LkP.ite (lkp_fn_X7_findResource_B59 K h_z_2 (fun z9 q5 hk_z9 => (ih _ _ hk_z9 ))) (LkP.xl (fun k_10 q => have g_k_10 := K.2.2.2.2.2 _ _ _ _ h_z_2 g_h0 q; (LkP.xg (LkP.ite (LkP.xl (fun k_13 q => have g_k_13 := K.2.2.2.2.2 _ _ _ _ h_z_2 g_h0 q; (LkP.xg (LkP.ite (LkP.xl (fun k_16 q => have g_k_16 := K.2.2.2.2.2 _ _ _ _ h_z_2 g_h0 q; (LkP.xg (LkP.ite (LkP.ret h_z_2) (lkp_fn_X7_findResource_B59 K h_z_2 (fun z9 q5 hk_z9 => (ih _ _ hk_z9 ))))))) (lkp_fn_X7_findResource_B59 K h_z_2 (fun z9 q5 hk_z9 => (ih _ _ hk_z9 ))))))) (lkp_fn_X7_findResource_B59 K h_z_2 (fun z9 q5 hk_z9 => (ih _ _ hk_z9 )))))))))))))
theorem lkp_fn_X7_findResource {F : Nat} {sh : Nat → Nat × Nat} {n : Nat} {z : St} {h0 : Nat} {x0 : Int64} {x1 : Int32} {x2 : Int32} (K : Kp Q G) (h_z : Q z) (g_h0 : G h0) : LkP Q (fn_X7_findResource F sh n z h0 x0 x1 x2) := by
  unfold fn_X7_findResource
  exact (lkp_fn_X7_findResource_L3 K g_h0 _ _ _ h_z )
theorem lkp_fn_X18_add {F : Nat} {sh : Nat → Nat × Nat} {n : Nat} {z : St} {h0 : Nat} {x0 : Int32} {x1 : Int64} {x2 : Int64} {x3 : Int32} (K : Kp Q G) (h_z : Q z) (g_h0 : G h0) : LkP Q (fn_X18_add F sh n z h0 x0 x1 x2 x3) := by
  unfold fn_X18_add
  exact (LkP.xg (LkP.ltv (fun v_2 => (LkP.lts (K.1 _ _ _ _ h_z g_h0) (fun z_4 h_z_4 => (LkP.xl (fun k_5 q => have g_k_5 := K.2.2.2.2.2 _ _ _ _ h_z_4 g_h0 q; (LkP.xg (LkP.lts (K.1 _ _ _ _ h_z_4 g_k_5) (fun z_8 h_z_8 => (LkP.xl (fun k_9 q => have g_k_9 := K.2.2.2.2.2 _ _ _ _ h_z_8 g_h0 q; (LkP.xg (LkP.lts (K.2.1 _ _ _ _ h_z_8 g_k_9) (fun z_12 h_z_12 => (LkP.xl (fun k_13 q => have g_k_13 := K.2.2.2.2.2 _ _ _ _ h_z_12 g_h0 q; (LkP.xg (LkP.lts (K.2.1 _ _ _ _ h_z_12 g_k_13) (fun z_16 h_z_16 => (LkP.xl (fun k_17 q => have g_k_17 := K.2.2.2.2.2 _ _ _ _ h_z_16 g_h0 q; (LkP.xg (LkP.lts (K.1 _ _ _ _ h_z_16 g_k_17) (fun z_20 h_z_20 => (LkP.xl (fun k_21 q => have g_k_21 := K.2.2.2.2.2 _ _ _ _ h_z_20 g_h0 q; (LkP.xg (LkP.lts (K.1 _ _ _ _ h_z_20 g_k_21) (fun z_24 h_z_24 => (LkP.ret h_z_24)))))))))))))))))))))))))))))))
theorem lkp_fn_X10_shiftDown {F : Nat} {sh : Nat → Nat × Nat} {n : Nat} {z : St} {h0 : Nat} {x0 : Int32} (K : Kp Q G) (h_z : Q z) (g_h0 : G h0) : LkP Q (fn_X10_shiftDown F sh n z h0 x0) := by
  unfold fn_X10_shiftDown
  exact (LkP.ite (LkP.ite (LkP.ret h_z) (LkP.xg (LkP.lts (K.2.1 _ _ _ _ h_z g_h0) (fun z_5 h_z_5 => (LkP.lts (K.2.1 _ _ _ _ h_z_5 g_h0) (fun z_7 h_z_7 => (LkP.ret h_z_7))))))) (LkP.xg (LkP.lts (K.2.1 _ _ _ _ h_z g_h0) (fun z_10 h_z_10 => (LkP.lts (K.2.1 _ _ _ _ h_z_10 g_h0) (fun z_12 h_z_12 => (LkP.ret h_z_12)))))))
theorem lkp_fn_X10_shiftUp {F : Nat} {sh : Nat → Nat × Nat} {n : Nat} {z : St} {h0 : Nat} {x0 : Int32} (K : Kp Q G) (h_z : Q z) (g_h0 : G h0) : LkP Q (fn_X10_shiftUp F sh n z h0 x0) := by
  unfold fn_X10_shiftUp
  exact (LkP.ite (LkP.ite (LkP.ret h_z) (LkP.xg (LkP.lts (K.2.1 _ _ _ _ h_z g_h0) (fun z_5 h_z_5 => (LkP.lts (K.2.1 _ _ _ _ h_z_5 g_h0) (fun z_7 h_z_7 => (LkP.ret h_z_7))))))) (LkP.xg (LkP.lts (K.2.1 _ _ _ _ h_z g_h0) (fun z_10 h_z_10 => (LkP.lts (K.2.1 _ _ _ _ h_z_10 g_h0) (fun z_12 h_z_12 => (LkP.ret h_z_12)))))))
theorem lkp_fn_X15_make {F : Nat} {sh : Nat → Nat × Nat} {n : Nat} {z : St} {h0 : Nat} {x0 : Int32} {x1 : Int64} {x2 : Int64} (K : Kp Q G) (h_z : Q z) (g_h0 : G h0) : LkP Q (fn_X15_make F sh n z h0 x0 x1 x2) := by
  unfold fn_X15_make
  exact (LkP.xg (LkP.ltv (fun v_2 => (LkP.lts (K.1 _ _ _ _ h_z g_h0) (fun z_4 h_z_4 => (LkP.xl (fun k_5 q => have g_k_5 := K.2.2.2.2.2 _ _ _ _ h_z_4 g_h0 q; (LkP.xg (LkP.lts (K.1 _ _ _ _ h_z_4 g_k_5) (fun z_8 h_z_8 => (LkP.xl (fun k_9 q => have g_k_9 := K.2.2.2.2.2 _ _ _ _ h_z_8 g_h0 q; (LkP.xg (LkP.lts (K.2.1 _ _ _ _ h_z_8 g_k_9) (fun z_12 h_z_12 => (LkP.xl (fun k_13 q => have g_k_13 := K.2.2.2.2.2 _ _ _ _ h_z_12 g_h0 q; (LkP.xg (LkP.lts (K.2.1 _ _ _ _ h_z_12 g_k_13) (fun z_16 h_z_16 => (LkP.xl (fun k_17 q => have g_k_17 := K.2.2.2.2.2 _ _ _ _ h_z_16 g_h0 q; (LkP.xg (LkP.lts (K.1 _ _ _ _ h_z_16 g_k_17) (fun z_20 h_z_20 => (LkP.xl (fun k_21 q => have g_k_21 := K.2.2.2.2.2 _ _ _ _ h_z_20 g_h0 q; (LkP.xg (LkP.lts (K.1 _ _ _ _ h_z_20 g_k_21) (fun z_24 h_z_24 => (LkP.ret h_z_24)))))))))))))))))))))))))))))))
theorem lkp_fn_X15_takeLast_L9 {F : Nat} {sh : Nat → Nat × Nat} {n : Nat} {h0 : Nat} {x0 : Int32} (K : Kp Q G) (g_h0 : G h0) : ∀ (f : Nat) (v1 : St) (v2 : Int32) (v3 : Int32), Q v1 → LkP Q (fn_X15_takeLast_L9 F sh n h0 x0 f v1 v2 v3) := by
  intro f
  induction f with
  | zero => intros; exact LkP.none
  | succ f_8 ih =>
    intro z_7 p_5 p_6 h_z_7
    exact (LkP.xl (fun k_9 q => have g_k_9 := K.2.2.2.2.2 _ _ _ _ h_z_7 g_h0 q; (LkP.xg (LkP.ite (LkP.ite (LkP.xl (fun k_17 q => have g_k_17 := K.2.2.2.2.2 _ _ _ _ h_z_7 g_h0 q; (LkP.xg (LkP.lts (K.1 _ _ _ _ h_z_7 g_k_17) (fun z_20 h_z_20 => (LkP.ret h_z_20)))))) (LkP.xl (fun k_13 q => have g_k_13 := K.2.2.2.2.2 _ _ _ _ h_z_7 g_h0 q; (LkP.xg (LkP.lts (K.1 _ _ _ _ h_z_7 g_k_13) (fun z_16 h_z_16 => (LkP.ret h_z_16))))))) (LkP.xl (fun k_21 q => have g_k_21 := K.2.2.2.2.2 _ _ _ _ h_z_7 g_h0 q; (LkP.xg (LkP.ltv (fun v_23 => (ih _ _ _ h_z_7 ))))))))))
theorem lkp_fn_X15_takeLast {F : Nat} {sh : Nat → Nat × Nat} {n : Nat} {z : St} {h0 : Nat} {x0 : Int32} (K : Kp Q G) (h_z : Q z) (g_h0 : G h0) : LkP Q (fn_X15_takeLast F sh n z h0 x0) := by
  unfold fn_X15_takeLast
  exact (LkP.xg (LkP.xl (fun k_2 q => have g_k_2 := K.2.2.2.2.2 _ _ _ _ h_z g_h0 q; (LkP.xg (LkP.ltv (fun v_4 => (lkp_fn_X15_takeLast_L9 K g_h0 _ _ _ _ h_z )))))))
theorem lkp_fn_X17_lay_B59 {F : Nat} {sh : Nat → Nat × Nat} {n : Nat} {x0 : Nat} {p_1 : Int32} {ko3 : St → Int32 → Option (St × Unit)} {z_6 : St} {p_5 : Int32} (K : Kp Q G) (h_z_6 : Q z_6) (g_x0 : G x0) (hko_ko3 : ∀ (w0 : St) (w1 : Int32), Q w0 → LkP Q (ko3 w0 w1)) : LkP Q (fn_X17_lay_B59 F sh n x0 p_1 ko3 z_6 p_5) := by
  unfold fn_X17_lay_B59
  exact (LkP.xg (LkP.lts (K.1 _ _ _ _ h_z_6 g_x0) (fun z_9 h_z_9 => (hko_ko3 _ _ h_z_9 ))))
theorem lkp_fn_X17_lay_L3 {F : Nat} {sh : Nat → Nat × Nat} {n : Nat} {x0 : Nat} {x1 : Int64} {x2 : Int64} (K : Kp Q G) (g_x0 : G x0) : ∀ (f : Nat) (v1 : St) (v2 : Int32), Q v1 → LkP Q (fn_X17_lay_L3 F sh n x0 x1 x2 f v1 v2) := by
  intro f
  induction f with
  | zero => intros; exact LkP.none
  | succ f_3 ih =>
    intro z_2 p_1 h_z_2
    exact (LkP.ite (LkP.ret h_z_2) (LkP.ite (LkP.ite (lkp_fn_X17_lay_B59 K h_z_2 g_x0 (fun z9 q5 hk_z9 => (ih _ _ hk_z9 ))) (lkp_fn_X17_lay_B59 K h_z_2 g_x0 (fun z9 q5 hk_z9 => (ih _ _ hk_z9 )))) (lkp_fn_X17_lay_B59 K h_z_2 g_x0 (fun z9 q5 hk_z9 => (ih _ _ hk_z9 )))))
theorem lkp_fn_X17_lay {F : Nat} {sh : Nat → Nat × Nat} {n : Nat} {z : St} {x0 : Nat} {x1 : Int64} {x2 : Int64} (K : Kp Q G) (h_z : Q z) (g_x0 : G x0) : LkP Q (fn_X17_lay F sh n z x0 x1 x2) := by
  unfold fn_X17_lay
  exact (lkp_fn_X17_lay_L3 K g_x0 _ _ _ h_z )
theorem lkp_fn_X4_pop {F : Nat} {sh : Nat → Nat × Nat} {n : Nat} {z : St} {h0 : Nat} (K : Kp Q G) (h_z : Q z) (g_h0 : G h0) : LkP Q (fn_X4_pop F sh n z h0) := by
  unfold fn_X4_pop
  exact (LkP.xg (LkP.xl (fun k_2 q => have g_k_2 := K.2.2.2.2.2 _ _ _ _ h_z g_h0 q; (LkP.xg (LkP.ite (LkP.xl (fun k_14 q => have g_k_14 := K.2.2.2.2.2 _ _ _ _ h_z g_h0 q; (LkP.xg (LkP.lts (K.1 _ _ _ _ h_z g_k_14) (fun z_17 h_z_17 => (LkP.ret h_z_17)))))) (LkP.xl (fun k_5 q => have g_k_5 := K.2.2.2.2.2 _ _ _ _ h_z g_h0 q; (LkP.xg (LkP.xg (LkP.lts (K.1 _ _ _ _ h_z g_k_5) (fun z_9 h_z_9 => (LkP.xl (fun k_10 q => have g_k_10 := K.2.2.2.2.2 _ _ _ _ h_z_9 g_h0 q; (LkP.xl (fun k_11 q => have g_k_11 := K.2.2.2.2.2 _ _ _ _ h_z_9 g_h0 q; (LkP.xg (LkP.xg (LkP.ret h_z_9))))))))))))))))))
theorem lkp_fn_X4_push {F : Nat} {sh : Nat → Nat × Nat} {n : Nat} {z : St} {h0 : Nat} {x0 : Int32} (K : Kp Q G) (h_z : Q z) (g_h0 : G h0) : LkP Q (fn_X4_push F sh n z h0 x0) := by
  unfold fn_X4_push
  exact (LkP.xg (LkP.xl (fun k_2 q => have g_k_2 := K.2.2.2.2.2 _ _ _ _ h_z g_h0 q; (LkP.xg (LkP.ite (LkP.xl (fun k_5 q => have g_k_5 := K.2.2.2.2.2 _ _ _ _ h_z g_h0 q; (LkP.xl (fun k_6 q => have g_k_6 := K.2.2.2.2.2 _ _ _ _ h_z g_h0 q; (LkP.xg (LkP.xg (LkP.lts (K.1 _ _ _ _ h_z g_k_5) (fun z_10 h_z_10 => (LkP.xl (fun k_11 q => have g_k_11 := K.2.2.2.2.2 _ _ _ _ h_z_10 g_h0 q; (LkP.xg (LkP.xg (LkP.lts (K.1 _ _ _ _ h_z_10 g_k_11) (fun z_15 h_z_15 => (LkP.ret h_z_15))))))))))))))) (LkP.xl (fun k_16 q => have g_k_16 := K.2.2.2.2.2 _ _ _ _ h_z g_h0 q; (LkP.xg (LkP.lts (K.1 _ _ _ _ h_z g_k_16) (fun z_19 h_z_19 => (LkP.ret h_z_19)))))))))))
theorem lkp_fn_X15_add_L32 {F : Nat} {sh : Nat → Nat × Nat} {n : Nat} {h0 : Nat} {x1 : Int32} (K : Kp Q G) (g_h0 : G h0) : ∀ (f : Nat) (v1 : St) (v2 : Int32), Q v1 → LkP Q (fn_X15_add_L32 F sh n h0 x1 f v1 v2) := by
  intro f
  induction f with
  | zero => intros; exact LkP.none
  | succ f_14 ih =>
    intro z_13 p_12 h_z_13
    exact (LkP.xl (fun k_15 q => have g_k_15 := K.2.2.2.2.2 _ _ _ _ h_z_13 g_h0 q; (LkP.xg (LkP.ite (LkP.xl (fun k_18 q => have g_k_18 := K.2.2.2.2.2 _ _ _ _ h_z_13 g_h0 q; (LkP.xg (LkP.lts (K.1 _ _ _ _ h_z_13 g_k_18) (fun z_21 h_z_21 => (LkP.ret h_z_21)))))) (LkP.xl (fun k_22 q => have g_k_22 := K.2.2.2.2.2 _ _ _ _ h_z_13 g_h0 q; (LkP.xg (LkP.ltv (fun v_24 => (ih _ _ h_z_13 ))))))))))
theorem lkp_fn_X15_add {F : Nat} {sh : Nat → Nat × Nat} {n : Nat} {z : St} {h0 : Nat} {x0 : Int32} {x1 : Int32} (K : Kp Q G) (h_z : Q z) (g_h0 : G h0) : LkP Q (fn_X15_add F sh n z h0 x0 x1) := by
  unfold fn_X15_add
  exact (LkP.xg (LkP.xl (fun k_2 q => have g_k_2 := K.2.2.2.2.2 _ _ _ _ h_z g_h0 q; (LkP.xg (LkP.lts (K.1 _ _ _ _ h_z g_k_2) (fun z_5 h_z_5 => (LkP.xl (fun k_6 q => have g_k_6 := K.2.2.2.2.2 _ _ _ _ h_z_5 g_h0 q; (LkP.xg (LkP.ite (LkP.xl (fun k_25 q => have g_k_25 := K.2.2.2.2.2 _ _ _ _ h_z_5 g_h0 q; (LkP.xg (LkP.lts (K.1 _ _ _ _ h_z_5 g_k_25) (fun z_28 h_z_28 => (LkP.ret h_z_28)))))) (LkP.xl (fun k_9 q => have g_k_9 := K.2.2.2.2.2 _ _ _ _ h_z_5 g_h0 q; (LkP.xg (LkP.ltv (fun v_11 => (lkp_fn_X15_add_L32 K g_h0 _ _ _ h_z_5 ))))))))))))))))
theorem lkp_fn_X7_storedCoins_B57 {F : Nat} {sh : Nat → Nat × Nat} {n : Nat} {p_7 : Int64} {p_8 : Int32} {ko17 : St → Int64 → Int32 → Option (St × Int64)} {z_18 : St} {p_17 : Int64} (K : Kp Q G) (h_z_18 : Q z_18) (hko_ko17 : ∀ (w0 : St) (w1 : Int64) (w2 : Int32), Q w0 → LkP Q (ko17 w0 w1 w2)) : LkP Q (fn_X7_storedCoins_B57 F sh n p_7 p_8 ko17 z_18 p_17) := by
  unfold fn_X7_storedCoins_B57
  exact (LkP.ltv (fun v_19 => (hko_ko17 _ _ _ h_z_18 )))
theorem lkp_fn_X7_storedCoins_L17 {F : Nat} {sh : Nat → Nat × Nat} {n : Nat} {h0 : Nat} {p_2 : Int32} {ko4 : St → Int64 → Int32 → Option (St × Int64)} (K : Kp Q G) (g_h0 : G h0) (hko_ko4 : ∀ (w0 : St) (w1 : Int64) (w2 : Int32), Q w0 → LkP Q (ko4 w0 w1 w2)) : ∀ (f : Nat) (v1 : St) (v2 : Int64) (v3 : Int32), Q v1 → LkP Q (fn_X7_storedCoins_L17 F sh n h0 p_2 ko4 f v1 v2 v3) := by
  intro f
  induction f with
  | zero => intros; exact LkP.none
  | succ f_10 ih =>
    intro z_9 p_7 p_8 h_z_9
    exact (LkP.xg (LkP.xl (fun k_12 q => have g_k_12 := K.2.2.2.2.2 _ _ _ _ h_z_9 g_h0 q; (LkP.xg (LkP.ite (hko_ko4 _ _ _ h_z_9 ) (LkP.xl (fun k_15 q => have g_k_15 := K.2.2.2.2.2 _ _ _ _ h_z_9 g_h0 q; (LkP.xg (LkP.ite (LkP.xl (fun k_21 q => have g_k_21 := K.2.2.2.2.2 _ _ _ _ h_z_9 g_h0 q; (LkP.xg (lkp_fn_X7_storedCoins_B57 K h_z_9 (fun z9 q1 q4 hk_z9 => (ih _ _ _ hk_z9 )))))) (lkp_fn_X7_storedCoins_B57 K h_z_9 (fun z9 q1 q4 hk_z9 => (ih _ _ _ hk_z9 ))))))))))))
theorem lkp_fn_X7_storedCoins_L4 {F : Nat} {sh : Nat → Nat × Nat} {n : Nat} {h0 : Nat} (K : Kp Q G) (g_h0 : G h0) : ∀ (f : Nat) (v1 : St) (v2 : Int64) (v3 : Int32), Q v1 → LkP Q (fn_X7_storedCoins_L4 F sh n h0 f v1 v2 v3) := by
  intro f
  induction f with
  | zero => intros; exact LkP.none
  | succ f_4 ih =>
    intro z_3 p_1 p_2 h_z_3
    exact (LkP.ite (LkP.ret h_z_3) (LkP.ltv (fun v_6 => (lkp_fn_X7_storedCoins_L17 K g_h0 (fun z9 q1 q3 hk_z9 => (ih _ _ _ hk_z9 )) _ _ _ _ h_z_3 ))))
theorem lkp_fn_X7_storedCoins {F : Nat} {sh : Nat → Nat × Nat} {n : Nat} {z : St} {h0 : Nat} (K : Kp Q G) (h_z : Q z) (g_h0 : G h0) : LkP Q (fn_X7_storedCoins F sh n z h0) := by
  unfold fn_X7_storedCoins
  exact (lkp_fn_X7_storedCoins_L4 K g_h0 _ _ _ _ h_z )
theorem lkp_fn_X11_type_L33 {F : Nat} {sh : Nat → Nat × Nat} {n : Nat} {h0 : Nat} {x0 : Int64} (K : Kp Q G) (g_h0 : G h0) : ∀ (f : Nat) (v1 : St) (v2 : Int32), Q v1 → LkP Q (fn_X11_type_L33 F sh n h0 x0 f v1 v2) := by
  intro f
  induction f with
  | zero => intros; exact LkP.none
  | succ f_8 ih =>
    intro z_7 p_6 h_z_7
    exact (LkP.ite (LkP.ret h_z_7) (LkP.xl (fun k_10 q => have g_k_10 := K.2.2.2.2.2 _ _ _ _ h_z_7 g_h0 q; (LkP.ltv (fun v_11 => (LkP.lts (K.1 _ _ _ _ h_z_7 g_h0) (fun z_13 h_z_13 => (LkP.xg (LkP.lts (K.1 _ _ _ _ h_z_13 g_k_10) (fun z_16 h_z_16 => (ih _ _ h_z_16 )))))))))))
theorem lkp_fn_X11_type {F : Nat} {sh : Nat → Nat × Nat} {n : Nat} {z : St} {h0 : Nat} {x0 : Int64} {x1 : Int32} (K : Kp Q G) (h_z : Q z) (g_h0 : G h0) : LkP Q (fn_X11_type F sh n z h0 x0 x1) := by
  unfold fn_X11_type
  exact (LkP.ite (LkP.ret h_z) (LkP.ite (LkP.xg (LkP.ite (LkP.ltv (fun v_5 => (lkp_fn_X11_type_L33 K g_h0 _ _ _ h_z ))) (LkP.ret h_z))) (LkP.ret h_z)))
theorem lkp_fn_X14_keep_L3 {F : Nat} {sh : Nat → Nat × Nat} {n : Nat} {h0 : Nat} {x0 : Int32} {x3 : Int32} {x4 : Int64} {x5 : Int32} {x1 : Nat} {x2 : Nat} (K : Kp Q G) (g_h0 : G h0) (g_x1 : G x1) (g_x2 : G x2) : ∀ (f : Nat) (v1 : St) (v2 : Int32), Q v1 → LkP Q (fn_X14_keep_L3 F sh n h0 x0 x3 x4 x5 x1 x2 f v1 v2) := by
  intro f
  induction f with
  | zero => intros; exact LkP.none
  | succ f_3 ih =>
    intro z_2 p_1 h_z_2
    exact (LkP.ite (LkP.xg (LkP.xl (fun k_6 q => have g_k_6 := K.2.2.2.2.2 _ _ _ _ h_z_2 g_h0 q; (LkP.xg (LkP.lts (K.1 _ _ _ _ h_z_2 g_k_6) (fun z_9 h_z_9 => (LkP.xl (fun k_10 q => have g_k_10 := K.2.2.2.2.2 _ _ _ _ h_z_9 g_h0 q; (LkP.xg (LkP.lts (K.2.1 _ _ _ _ h_z_9 g_k_10) (fun z_13 h_z_13 => (LkP.xl (fun k_14 q => have g_k_14 := K.2.2.2.2.2 _ _ _ _ h_z_13 g_h0 q; (LkP.xg (LkP.lts (K.1 _ _ _ _ h_z_13 g_k_14) (fun z_17 h_z_17 => (LkP.ret h_z_17))))))))))))))))) (LkP.xg (LkP.xl (fun k_19 q => have g_k_19 := K.2.2.2.2.2 _ _ _ _ h_z_2 g_h0 q; (LkP.xg (LkP.xg (LkP.lts (K.2.1 _ _ _ _ h_z_2 g_k_19) (fun z_23 h_z_23 => (LkP.xl (fun k_24 q => have g_k_24 := K.2.2.2.2.2 _ _ _ _ h_z_23 g_h0 q; (LkP.xg (LkP.xg (LkP.lts (K.2.1 _ _ _ _ h_z_23 g_k_24) (fun z_28 h_z_28 => (ih _ _ h_z_28 )))))))))))))))
theorem lkp_fn_X14_keep {F : Nat} {sh : Nat → Nat × Nat} {n : Nat} {z : St} {h0 : Nat} {x0 : Int32} {x1 : Nat} {x2 : Nat} {x3 : Int32} {x4 : Int64} {x5 : Int32} (K : Kp Q G) (h_z : Q z) (g_h0 : G h0) (g_x1 : G x1) (g_x2 : G x2) : LkP Q (fn_X14_keep F sh n z h0 x0 x1 x2 x3 x4 x5) := by
  unfold fn_X14_keep
  exact (lkp_fn_X14_keep_L3 K g_h0 g_x1 g_x2 _ _ _ h_z )
theorem lkp_fn_X18_coinsIn_B66 {F : Nat} {sh : Nat → Nat × Nat} {n : Nat} {v_11 : Int32} {p_4 : Int32} {ko11 : St → Int64 → Int32 → Int32 → Option (St × Int64)} {z_15 : St} {p_14 : Int64} (K : Kp Q G) (h_z_15 : Q z_15) (hko_ko11 : ∀ (w0 : St) (w1 : Int64) (w2 : Int32) (w3 : Int32), Q w0 → LkP Q (ko11 w0 w1 w2 w3)) : LkP Q (fn_X18_coinsIn_B66 F sh n v_11 p_4 ko11 z_15 p_14) := by
  unfold fn_X18_coinsIn_B66
  exact (hko_ko11 _ _ _ _ h_z_15 )
theorem lkp_fn_X18_coinsIn_L11 {F : Nat} {sh : Nat → Nat × Nat} {n : Nat} {h0 : Nat} (K : Kp Q G) (g_h0 : G h0) : ∀ (f : Nat) (v1 : St) (v2 : Int64) (v3 : Int32) (v4 : Int32), Q v1 → LkP Q (fn_X18_coinsIn_L11 F sh n h0 f v1 v2 v3 v4) := by
  intro f
  induction f with
  | zero => intros; exact LkP.none
  | succ f_6 ih =>
    intro z_5 p_2 p_3 p_4 h_z_5
    exact (LkP.ite (LkP.ret h_z_5) (LkP.xg (LkP.xl (fun k_9 q => have g_k_9 := K.2.2.2.2.2 _ _ _ _ h_z_5 g_h0 q; (LkP.xg (LkP.ltv (fun v_11 => (LkP.xl (fun k_12 q => have g_k_12 := K.2.2.2.2.2 _ _ _ _ h_z_5 g_h0 q; (LkP.xg (LkP.ite (LkP.xl (fun k_17 q => have g_k_17 := K.2.2.2.2.2 _ _ _ _ h_z_5 g_h0 q; (LkP.xg (LkP.ite (LkP.xl (fun k_20 q => have g_k_20 := K.2.2.2.2.2 _ _ _ _ h_z_5 g_h0 q; (LkP.xg (LkP.ltv (fun v_22 => (lkp_fn_X18_coinsIn_B66 K h_z_5 (fun z9 q2 q4 q5 hk_z9 => (ih _ _ _ _ hk_z9 )))))))) (lkp_fn_X18_coinsIn_B66 K h_z_5 (fun z9 q2 q4 q5 hk_z9 => (ih _ _ _ _ hk_z9 ))))))) (lkp_fn_X18_coinsIn_B66 K h_z_5 (fun z9 q2 q4 q5 hk_z9 => (ih _ _ _ _ hk_z9 ))))))))))))))
theorem lkp_fn_X18_coinsIn {F : Nat} {sh : Nat → Nat × Nat} {n : Nat} {z : St} {h0 : Nat} {x0 : Int32} (K : Kp Q G) (h_z : Q z) (g_h0 : G h0) : LkP Q (fn_X18_coinsIn F sh n z h0 x0) := by
  unfold fn_X18_coinsIn
  exact (LkP.ltv (fun v_1 => (lkp_fn_X18_coinsIn_L11 K g_h0 _ _ _ _ _ h_z )))
theorem lkp_fn_X18_type_L33 {F : Nat} {sh : Nat → Nat × Nat} {n : Nat} {h0 : Nat} {x0 : Int64} (K : Kp Q G) (g_h0 : G h0) : ∀ (f : Nat) (v1 : St) (v2 : Int32), Q v1 → LkP Q (fn_X18_type_L33 F sh n h0 x0 f v1 v2) := by
  intro f
  induction f with
  | zero => intros; exact LkP.none
  | succ f_8 ih =>
    intro z_7 p_6 h_z_7
    exact (LkP.ite (LkP.ret h_z_7) (LkP.xl (fun k_10 q => have g_k_10 := K.2.2.2.2.2 _ _ _ _ h_z_7 g_h0 q; (LkP.xg (LkP.lts (K.1 _ _ _ _ h_z_7 g_k_10) (fun z_13 h_z_13 => (LkP.lts (K.1 _ _ _ _ h_z_13 g_h0) (fun z_15 h_z_15 => (ih _ _ h_z_15 )))))))))
theorem lkp_fn_X18_type {F : Nat} {sh : Nat → Nat × Nat} {n : Nat} {z : St} {h0 : Nat} {x0 : Int64} {x1 : Int32} (K : Kp Q G) (h_z : Q z) (g_h0 : G h0) : LkP Q (fn_X18_type F sh n z h0 x0 x1) := by
  unfold fn_X18_type
  exact (LkP.ite (LkP.ret h_z) (LkP.ite (LkP.xg (LkP.ite (LkP.ltv (fun v_5 => (lkp_fn_X18_type_L33 K g_h0 _ _ _ h_z ))) (LkP.ret h_z))) (LkP.ret h_z)))
theorem lkp_fn_X1_prepend_B37 {F : Nat} {sh : Nat → Nat × Nat} {n : Nat} {h0 : Nat} {x0 : Int32} {x1 : Int32} {z_8 : St} (K : Kp Q G) (h_z_8 : Q z_8) (g_h0 : G h0) : LkP Q (fn_X1_prepend_B37 F sh n h0 x0 x1 z_8) := by
  unfold fn_X1_prepend_B37
  exact (LkP.xl (fun k_9 q => have g_k_9 := K.2.2.2.2.2 _ _ _ _ h_z_8 g_h0 q; (LkP.xl (fun k_10 q => have g_k_10 := K.2.2.2.2.2 _ _ _ _ h_z_8 g_h0 q; (LkP.xg (LkP.xg (LkP.lts (K.1 _ _ _ _ h_z_8 g_k_9) (fun z_14 h_z_14 => (LkP.xl (fun k_15 q => have g_k_15 := K.2.2.2.2.2 _ _ _ _ h_z_14 g_h0 q; (LkP.xg (LkP.lts (K.2.1 _ _ _ _ h_z_14 g_k_15) (fun z_18 h_z_18 => (LkP.xl (fun k_19 q => have g_k_19 := K.2.2.2.2.2 _ _ _ _ h_z_18 g_h0 q; (LkP.xg (LkP.xg (LkP.lts (K.2.1 _ _ _ _ h_z_18 g_k_19) (fun z_23 h_z_23 => (LkP.ret h_z_23))))))))))))))))))))
theorem lkp_fn_X1_prepend {F : Nat} {sh : Nat → Nat × Nat} {n : Nat} {z : St} {h0 : Nat} {x0 : Int32} {x1 : Int32} (K : Kp Q G) (h_z : Q z) (g_h0 : G h0) : LkP Q (fn_X1_prepend F sh n z h0 x0 x1) := by
  unfold fn_X1_prepend
  exact (LkP.ite (LkP.xg (LkP.lts (K.1 _ _ _ _ h_z g_h0) (fun z_4 h_z_4 => (LkP.ret h_z_4)))) (LkP.xg (LkP.xl (fun k_6 q => have g_k_6 := K.2.2.2.2.2 _ _ _ _ h_z g_h0 q; (LkP.xg (LkP.ite (lkp_fn_X1_prepend_B37 K h_z g_h0) (LkP.xl (fun k_25 q => have g_k_25 := K.2.2.2.2.2 _ _ _ _ h_z g_h0 q; (LkP.xg (LkP.ite (lkp_fn_X1_prepend_B37 K h_z g_h0) (LkP.lts (K.1 _ _ _ _ h_z g_h0) (fun z_29 h_z_29 => (LkP.ret h_z_29)))))))))))))
theorem lkp_fn_X11_result {F : Nat} {sh : Nat → Nat × Nat} {n : Nat} {z : St} {h0 : Nat} {x0 : Int32} {x1 : Int32} {x2 : Int32} (K : Kp Q G) (h_z : Q z) (g_h0 : G h0) : LkP Q (fn_X11_result F sh n z h0 x0 x1 x2) := by
  unfold fn_X11_result
  exact (LkP.ite (LkP.ret h_z) (LkP.xg (LkP.ite (LkP.ret h_z) (LkP.ite (LkP.ret h_z) (LkP.xl (fun k_5 q => have g_k_5 := K.2.2.2.2.2 _ _ _ _ h_z g_h0 q; (LkP.xg (LkP.xl (fun k_7 q => have g_k_7 := K.2.2.2.2.2 _ _ _ _ h_z g_k_5 q; (LkP.xg (LkP.ite (LkP.ite (LkP.xl (fun k_11 q => have g_k_11 := K.2.2.2.2.2 _ _ _ _ h_z g_h0 q; (LkP.xg (LkP.xl (fun k_13 q => have g_k_13 := K.2.2.2.2.2 _ _ _ _ h_z g_k_11 q; (LkP.xg (LkP.xl (fun k_15 q => have g_k_15 := K.2.2.2.2.2 _ _ _ _ h_z g_k_13 q; (LkP.xg (LkP.ret h_z)))))))))) (LkP.ite (LkP.xl (fun k_18 q => have g_k_18 := K.2.2.2.2.2 _ _ _ _ h_z g_h0 q; (LkP.xg (LkP.xl (fun k_20 q => have g_k_20 := K.2.2.2.2.2 _ _ _ _ h_z g_k_18 q; (LkP.xg (LkP.xl (fun k_22 q => have g_k_22 := K.2.2.2.2.2 _ _ _ _ h_z g_k_20 q; (LkP.xg (LkP.ret h_z)))))))))) (LkP.ite (LkP.xl (fun k_25 q => have g_k_25 := K.2.2.2.2.2 _ _ _ _ h_z g_h0 q; (LkP.xg (LkP.xl (fun k_27 q => have g_k_27 := K.2.2.2.2.2 _ _ _ _ h_z g_k_25 q; (LkP.xg (LkP.xl (fun k_29 q => have g_k_29 := K.2.2.2.2.2 _ _ _ _ h_z g_k_27 q; (LkP.xg (LkP.ret h_z)))))))))) (LkP.ret h_z)))) (LkP.ret h_z))))))))))))
theorem lkp_fn_X14_parting_L2 {F : Nat} {sh : Nat → Nat × Nat} {n : Nat} {h0 : Nat} {x0 : Int32} (K : Kp Q G) (g_h0 : G h0) : ∀ (f : Nat) (v1 : St) (v2 : Int32), Q v1 → LkP Q (fn_X14_parting_L2 F sh n h0 x0 f v1 v2) := by
  intro f
  induction f with
  | zero => intros; exact LkP.none
  | succ f_3 ih =>
    intro z_2 p_1 h_z_2
    exact (LkP.xg (LkP.xl (fun k_5 q => have g_k_5 := K.2.2.2.2.2 _ _ _ _ h_z_2 g_h0 q; (LkP.xg (LkP.xl (fun k_7 q => have g_k_7 := K.2.2.2.2.2 _ _ _ _ h_z_2 g_h0 q; (LkP.xg (LkP.ite (ih _ _ h_z_2 ) (LkP.ret h_z_2)))))))))
theorem lkp_fn_X14_parting {F : Nat} {sh : Nat → Nat × Nat} {n : Nat} {z : St} {h0 : Nat} {x0 : Int32} (K : Kp Q G) (h_z : Q z) (g_h0 : G h0) : LkP Q (fn_X14_parting F sh n z h0 x0) := by
  unfold fn_X14_parting
  exact (lkp_fn_X14_parting_L2 K g_h0 _ _ _ h_z )
theorem lkp_fn_X11_isArgument_B25 {F : Nat} {sh : Nat → Nat × Nat} {n : Nat} {x0 : Int32} {x2 : Int64} {z_3 : St} (K : Kp Q G) (h_z_3 : Q z_3) : LkP Q (fn_X11_isArgument_B25 F sh n x0 x2 z_3) := by
  unfold fn_X11_isArgument_B25
  exact (LkP.ite (LkP.ite (LkP.ret h_z_3) (LkP.ite (LkP.ret h_z_3) (LkP.ret h_z_3))) (LkP.ite (LkP.ite (LkP.ret h_z_3) (LkP.ite (LkP.ret h_z_3) (LkP.ret h_z_3))) (LkP.ret h_z_3)))
theorem lkp_fn_X11_isArgument {F : Nat} {sh : Nat → Nat × Nat} {n : Nat} {z : St} {x0 : Int32} {x1 : Int64} {x2 : Int64} (K : Kp Q G) (h_z : Q z) : LkP Q (fn_X11_isArgument F sh n z x0 x1 x2) := by
  unfold fn_X11_isArgument
  exact (LkP.ite (LkP.ret h_z) (LkP.ite (LkP.ite (lkp_fn_X11_isArgument_B25 K h_z) (LkP.ite (lkp_fn_X11_isArgument_B25 K h_z) (LkP.ret h_z))) (LkP.ret h_z)))
theorem lkp_fn_X10_upperProduct {F : Nat} {sh : Nat → Nat × Nat} {n : Nat} {z : St} {x0 : Int64} {x1 : Int64} (K : Kp Q G) (h_z : Q z) : LkP Q (fn_X10_upperProduct F sh n z x0 x1) := by
  unfold fn_X10_upperProduct
  exact (LkP.ltv (fun v_1 => (LkP.ltv (fun v_2 => (LkP.ltv (fun v_3 => (LkP.ltv (fun v_4 => (LkP.ltv (fun v_5 => (LkP.ltv (fun v_6 => (LkP.ret h_z)))))))))))))
theorem lkp_fn_X4_pushFrame_L52 {F : Nat} {sh : Nat → Nat × Nat} {n : Nat} {h0 : Nat} (K : Kp Q G) (g_h0 : G h0) : ∀ (f : Nat) (v1 : St) (v2 : Int32), Q v1 → LkP Q (fn_X4_pushFrame_L52 F sh n h0 f v1 v2) := by
  intro f
  induction f with
  | zero => intros; exact LkP.none
  | succ f_23 ih =>
    intro z_22 p_21 h_z_22
    exact (LkP.ite (LkP.ret h_z_22) (LkP.xl (fun k_25 q => have g_k_25 := K.2.2.2.2.2 _ _ _ _ h_z_22 g_h0 q; (LkP.xg (LkP.lts (K.1 _ _ _ _ h_z_22 g_k_25) (fun z_28 h_z_28 => (ih _ _ h_z_28 )))))))
theorem lkp_fn_X4_pushFrame {F : Nat} {sh : Nat → Nat × Nat} {n : Nat} {z : St} {h0 : Nat} {x0 : Nat} {x1 : Int32} (K : Kp Q G) (h_z : Q z) (g_h0 : G h0) (g_x0 : G x0) : LkP Q (fn_X4_pushFrame F sh n z h0 x0 x1) := by
  unfold fn_X4_pushFrame
  exact (LkP.xg (LkP.lts (K.1 _ _ _ _ h_z g_h0) (fun z_3 h_z_3 => (LkP.xl (fun k_4 q => have g_k_4 := K.2.2.2.2.2 _ _ _ _ h_z_3 g_h0 q; (LkP.xg (LkP.xg (LkP.lts (K.2.2.1 _ _ _ _ h_z_3 g_k_4 (some_q g_x0)) (fun z_8 h_z_8 => (LkP.xl (fun k_9 q => have g_k_9 := K.2.2.2.2.2 _ _ _ _ h_z_8 g_h0 q; (LkP.xg (LkP.lts (K.1 _ _ _ _ h_z_8 g_k_9) (fun z_12 h_z_12 => (LkP.xl (fun k_13 q => have g_k_13 := K.2.2.2.2.2 _ _ _ _ h_z_12 g_h0 q; (LkP.xg (LkP.lts (K.1 _ _ _ _ h_z_12 g_k_13) (fun z_16 h_z_16 => (LkP.xl (fun k_17 q => have g_k_17 := K.2.2.2.2.2 _ _ _ _ h_z_16 g_h0 q; (LkP.xg (LkP.lts (K.1 _ _ _ _ h_z_16 g_k_17) (fun z_20 h_z_20 => (lkp_fn_X4_pushFrame_L52 K g_h0 _ _ _ h_z_20 )))))))))))))))))))))))))
theorem lkp_fn_X1_make_B18 {F : Nat} {sh : Nat → Nat × Nat} {n : Nat} {h0 : Nat} {z_2 : St} (K : Kp Q G) (h_z_2 : Q z_2) (g_h0 : G h0) : LkP Q (fn_X1_make_B18 F sh n h0 z_2) := by
  unfold fn_X1_make_B18
  exact (LkP.lts (K.1 _ _ _ _ h_z_2 g_h0) (fun z_4 h_z_4 => (LkP.ret h_z_4)))
theorem lkp_fn_X1_make {F : Nat} {sh : Nat → Nat × Nat} {n : Nat} {z : St} {h0 : Nat} {x0 : Int32} {x1 : Int64} {x2 : Int64} (K : Kp Q G) (h_z : Q z) (g_h0 : G h0) : LkP Q (fn_X1_make F sh n z h0 x0 x1 x2) := by
  unfold fn_X1_make
  exact (LkP.xg (LkP.ite (lkp_fn_X1_make_B18 K h_z g_h0) (LkP.ite (LkP.xl (fun k_7 q => have g_k_7 := K.2.2.2.2.2 _ _ _ _ h_z g_h0 q; (LkP.xg (LkP.lts (K.1 _ _ _ _ h_z g_k_7) (fun z_10 h_z_10 => (LkP.xl (fun k_11 q => have g_k_11 := K.2.2.2.2.2 _ _ _ _ h_z_10 g_h0 q; (LkP.xg (LkP.lts (K.2.1 _ _ _ _ h_z_10 g_k_11) (fun z_14 h_z_14 => (LkP.xl (fun k_15 q => have g_k_15 := K.2.2.2.2.2 _ _ _ _ h_z_14 g_h0 q; (LkP.xg (LkP.lts (K.2.1 _ _ _ _ h_z_14 g_k_15) (fun z_18 h_z_18 => (LkP.xl (fun k_19 q => have g_k_19 := K.2.2.2.2.2 _ _ _ _ h_z_18 g_h0 q; (LkP.xg (LkP.lts (K.1 _ _ _ _ h_z_18 g_k_19) (fun z_22 h_z_22 => (LkP.ltv (fun v_23 => (LkP.lts (K.1 _ _ _ _ h_z_22 g_h0) (fun z_25 h_z_25 => (LkP.ret h_z_25))))))))))))))))))))))))) (lkp_fn_X1_make_B18 K h_z g_h0))))
theorem lkp_fn_X9_firstDifference_B73 {F : Nat} {sh : Nat → Nat × Nat} {n : Nat} {p_1 : Int32} {ko2 : St → Int32 → Option (St × Int32)} {z_14 : St} (K : Kp Q G) (h_z_14 : Q z_14) (hko_ko2 : ∀ (w0 : St) (w1 : Int32), Q w0 → LkP Q (ko2 w0 w1)) : LkP Q (fn_X9_firstDifference_B73 F sh n p_1 ko2 z_14) := by
  unfold fn_X9_firstDifference_B73
  exact (hko_ko2 _ _ h_z_14 )
theorem lkp_fn_X9_firstDifference_L35 {F : Nat} {sh : Nat → Nat × Nat} {n : Nat} {p_1 : Int32} {v_10 : Int64} {ko2 : St → Int32 → Option (St × Int32)} (K : Kp Q G) (hko_ko2 : ∀ (w0 : St) (w1 : Int32), Q w0 → LkP Q (ko2 w0 w1)) : ∀ (f : Nat) (v1 : St) (v2 : Int32), Q v1 → LkP Q (fn_X9_firstDifference_L35 F sh n p_1 v_10 ko2 f v1 v2) := by
  intro f
  induction f with
  | zero => intros; exact LkP.none
  | succ f_13 ih =>
    intro z_12 p_11 h_z_12
    exact (LkP.ite (lkp_fn_X9_firstDifference_B73 K h_z_12 (fun z9 q3 hk_z9 => (hko_ko2 _ _ hk_z9 ))) (LkP.ite (lkp_fn_X9_firstDifference_B73 K h_z_12 (fun z9 q3 hk_z9 => (hko_ko2 _ _ hk_z9 ))) (LkP.ite (ih _ _ h_z_12 ) (LkP.ret h_z_12))))
theorem lkp_fn_X9_firstDifference_L2 {F : Nat} {sh : Nat → Nat × Nat} {n : Nat} {h0 : Nat} {x0 : Int32} {x1 : Int32} (K : Kp Q G) (g_h0 : G h0) : ∀ (f : Nat) (v1 : St) (v2 : Int32), Q v1 → LkP Q (fn_X9_firstDifference_L2 F sh n h0 x0 x1 f v1 v2) := by
  intro f
  induction f with
  | zero => intros; exact LkP.none
  | succ f_3 ih =>
    intro z_2 p_1 h_z_2
    exact (LkP.ite (LkP.ret h_z_2) (LkP.xg (LkP.xl (fun k_6 q => have g_k_6 := K.2.2.2.2.2 _ _ _ _ h_z_2 g_h0 q; (LkP.xg (LkP.xl (fun k_8 q => have g_k_8 := K.2.2.2.2.2 _ _ _ _ h_z_2 g_h0 q; (LkP.xg (LkP.ltv (fun v_10 => (lkp_fn_X9_firstDifference_L35 K (fun z9 q3 hk_z9 => (ih _ _ hk_z9 )) _ _ _ h_z_2 )))))))))))
theorem lkp_fn_X9_firstDifference {F : Nat} {sh : Nat → Nat × Nat} {n : Nat} {z : St} {h0 : Nat} {x0 : Int32} {x1 : Int32} (K : Kp Q G) (h_z : Q z) (g_h0 : G h0) : LkP Q (fn_X9_firstDifference F sh n z h0 x0 x1) := by
  unfold fn_X9_firstDifference
  exact (lkp_fn_X9_firstDifference_L2 K g_h0 _ _ _ h_z )
theorem lkp_fn_X14_agree_B78 {F : Nat} {sh : Nat → Nat × Nat} {n : Nat} {p_1 : Int32} {ko3 : St → Int32 → Option (St × Int32)} {z_12 : St} (K : Kp Q G) (h_z_12 : Q z_12) (hko_ko3 : ∀ (w0 : St) (w1 : Int32), Q w0 → LkP Q (ko3 w0 w1)) : LkP Q (fn_X14_agree_B78 F sh n p_1 ko3 z_12) := by
  unfold fn_X14_agree_B78
  exact (hko_ko3 _ _ h_z_12 )
theorem lkp_fn_X14_agree_L3 {F : Nat} {sh : Nat → Nat × Nat} {n : Nat} {x2 : Int32} {h0 : Nat} {x0 : Int32} {x1 : Int32} (K : Kp Q G) (g_h0 : G h0) : ∀ (f : Nat) (v1 : St) (v2 : Int32), Q v1 → LkP Q (fn_X14_agree_L3 F sh n x2 h0 x0 x1 f v1 v2) := by
  intro f
  induction f with
  | zero => intros; exact LkP.none
  | succ f_3 ih =>
    intro z_2 p_1 h_z_2
    exact (LkP.ite (LkP.ret h_z_2) (LkP.xg (LkP.xl (fun k_6 q => have g_k_6 := K.2.2.2.2.2 _ _ _ _ h_z_2 g_h0 q; (LkP.xg (LkP.xl (fun k_8 q => have g_k_8 := K.2.2.2.2.2 _ _ _ _ h_z_2 g_h0 q; (LkP.xg (LkP.ltv (fun v_10 => (LkP.ltv (fun v_11 => (LkP.ite (LkP.ite (lkp_fn_X14_agree_B78 K h_z_2 (fun z9 q4 hk_z9 => (ih _ _ hk_z9 ))) (LkP.ret h_z_2)) (LkP.ite (lkp_fn_X14_agree_B78 K h_z_2 (fun z9 q4 hk_z9 => (ih _ _ hk_z9 ))) (LkP.ret h_z_2)))))))))))))))
theorem lkp_fn_X14_agree {F : Nat} {sh : Nat → Nat × Nat} {n : Nat} {z : St} {h0 : Nat} {x0 : Int32} {x1 : Int32} {x2 : Int32} (K : Kp Q G) (h_z : Q z) (g_h0 : G h0) : LkP Q (fn_X14_agree F sh n z h0 x0 x1 x2) := by
  unfold fn_X14_agree
  exact (lkp_fn_X14_agree_L3 K g_h0 _ _ _ h_z )
theorem lkp_fn_X11_told {F : Nat} {sh : Nat → Nat × Nat} {n : Nat} {z : St} {h0 : Nat} {x0 : Int32} {x1 : Int32} (K : Kp Q G) (h_z : Q z) (g_h0 : G h0) : LkP Q (fn_X11_told F sh n z h0 x0 x1) := by
  unfold fn_X11_told
  exact (LkP.ite (LkP.ret h_z) (LkP.xg (LkP.ite (LkP.ret h_z) (LkP.ite (LkP.ret h_z) (LkP.ite (LkP.ite (LkP.ite (LkP.xl (fun k_8 q => have g_k_8 := K.2.2.2.2.2 _ _ _ _ h_z g_h0 q; (LkP.xg (LkP.xl (fun k_10 q => have g_k_10 := K.2.2.2.2.2 _ _ _ _ h_z g_k_8 q; (LkP.xg (LkP.ret h_z))))))) (LkP.ite (LkP.xl (fun k_13 q => have g_k_13 := K.2.2.2.2.2 _ _ _ _ h_z g_h0 q; (LkP.xg (LkP.xl (fun k_15 q => have g_k_15 := K.2.2.2.2.2 _ _ _ _ h_z g_k_13 q; (LkP.xg (LkP.ret h_z))))))) (LkP.ite (LkP.xl (fun k_18 q => have g_k_18 := K.2.2.2.2.2 _ _ _ _ h_z g_h0 q; (LkP.xg (LkP.xl (fun k_20 q => have g_k_20 := K.2.2.2.2.2 _ _ _ _ h_z g_k_18 q; (LkP.xg (LkP.ret h_z))))))) (LkP.xl (fun k_22 q => have g_k_22 := K.2.2.2.2.2 _ _ _ _ h_z g_h0 q; (LkP.xg (LkP.xl (fun k_24 q => have g_k_24 := K.2.2.2.2.2 _ _ _ _ h_z g_k_22 q; (LkP.xg (LkP.ite (LkP.xl (fun k_27 q => have g_k_27 := K.2.2.2.2.2 _ _ _ _ h_z g_h0 q; (LkP.xg (LkP.xl (fun k_29 q => have g_k_29 := K.2.2.2.2.2 _ _ _ _ h_z g_k_27 q; (LkP.xg (LkP.ret h_z))))))) (LkP.ret h_z))))))))))) (LkP.ret h_z)) (LkP.ret h_z))))))
theorem lkp_fn_X18_coinType {F : Nat} {sh : Nat → Nat × Nat} {n : Nat} {z : St} {x0 : Int32} {x1 : Int32} {x2 : Int32} (K : Kp Q G) (h_z : Q z) : LkP Q (fn_X18_coinType F sh n z x0 x1 x2) := by
  unfold fn_X18_coinType
  exact (LkP.ite (LkP.ite (LkP.ret h_z) (LkP.ite (LkP.ret h_z) (LkP.ite (LkP.ret h_z) (LkP.ite (LkP.ret h_z) (LkP.ite (LkP.ret h_z) (LkP.ret h_z)))))) (LkP.ite (LkP.ret h_z) (LkP.ite (LkP.ite (LkP.ret h_z) (LkP.ret h_z)) (LkP.ite (LkP.ret h_z) (LkP.ite (LkP.ret h_z) (LkP.ite (LkP.ite (LkP.ret h_z) (LkP.ret h_z)) (LkP.ret h_z)))))))
theorem lkp_fn_X16_operandBytes_B85 {F : Nat} {sh : Nat → Nat × Nat} {n : Nat} {x0 : Int32} {z_9 : St} (K : Kp Q G) (h_z_9 : Q z_9) : LkP Q (fn_X16_operandBytes_B85 F sh n x0 z_9) := by
  unfold fn_X16_operandBytes_B85
  exact (LkP.ite (LkP.ret h_z_9) (LkP.ite (LkP.ret h_z_9) (LkP.ite (LkP.ret h_z_9) (LkP.ret h_z_9))))
theorem lkp_fn_X16_operandBytes_B55 {F : Nat} {sh : Nat → Nat × Nat} {n : Nat} {x0 : Int32} {z_5 : St} (K : Kp Q G) (h_z_5 : Q z_5) : LkP Q (fn_X16_operandBytes_B55 F sh n x0 z_5) := by
  unfold fn_X16_operandBytes_B55
  exact (LkP.ite (LkP.ret h_z_5) (LkP.ite (LkP.ret h_z_5) (LkP.ite (LkP.ret h_z_5) (LkP.ite (lkp_fn_X16_operandBytes_B85 K h_z_5) (LkP.ite (lkp_fn_X16_operandBytes_B85 K h_z_5) (LkP.ret h_z_5))))))
theorem lkp_fn_X16_operandBytes_B41 {F : Nat} {sh : Nat → Nat × Nat} {n : Nat} {x0 : Int32} {z_4 : St} (K : Kp Q G) (h_z_4 : Q z_4) : LkP Q (fn_X16_operandBytes_B41 F sh n x0 z_4) := by
  unfold fn_X16_operandBytes_B41
  exact (LkP.ite (lkp_fn_X16_operandBytes_B55 K h_z_4) (LkP.ite (lkp_fn_X16_operandBytes_B55 K h_z_4) (LkP.ret h_z_4)))
theorem lkp_fn_X16_operandBytes_B29 {F : Nat} {sh : Nat → Nat × Nat} {n : Nat} {x0 : Int32} {z_3 : St} (K : Kp Q G) (h_z_3 : Q z_3) : LkP Q (fn_X16_operandBytes_B29 F sh n x0 z_3) := by
  unfold fn_X16_operandBytes_B29
  exact (LkP.ite (lkp_fn_X16_operandBytes_B41 K h_z_3) (LkP.ite (LkP.ret h_z_3) (lkp_fn_X16_operandBytes_B41 K h_z_3)))
theorem lkp_fn_X16_operandBytes_B17 {F : Nat} {sh : Nat → Nat × Nat} {n : Nat} {x0 : Int32} {z_2 : St} (K : Kp Q G) (h_z_2 : Q z_2) : LkP Q (fn_X16_operandBytes_B17 F sh n x0 z_2) := by
  unfold fn_X16_operandBytes_B17
  exact (LkP.ite (lkp_fn_X16_operandBytes_B29 K h_z_2) (LkP.ite (LkP.ret h_z_2) (lkp_fn_X16_operandBytes_B29 K h_z_2)))
theorem lkp_fn_X16_operandBytes {F : Nat} {sh : Nat → Nat × Nat} {n : Nat} {z : St} {x0 : Int32} (K : Kp Q G) (h_z : Q z) : LkP Q (fn_X16_operandBytes F sh n z x0) := by
  unfold fn_X16_operandBytes
  exact (LkP.ite (LkP.ret h_z) (LkP.ite (lkp_fn_X16_operandBytes_B17 K h_z) (LkP.ite (LkP.ret h_z) (lkp_fn_X16_operandBytes_B17 K h_z))))
theorem lkp_fn_X17_shift_B84 {F : Nat} {sh : Nat → Nat × Nat} {n : Nat} {p_6 : Int32} {ko14 : St → Int32 → Option (St × Unit)} {z_18 : St} (K : Kp Q G) (h_z_18 : Q z_18) (hko_ko14 : ∀ (w0 : St) (w1 : Int32), Q w0 → LkP Q (ko14 w0 w1)) : LkP Q (fn_X17_shift_B84 F sh n p_6 ko14 z_18) := by
  unfold fn_X17_shift_B84
  exact (hko_ko14 _ _ h_z_18 )
theorem lkp_fn_X17_shift_L14 {F : Nat} {sh : Nat → Nat × Nat} {n : Nat} {x3 : Int32} {x4 : Int32} {h0 : Nat} {x0 : Int32} (K : Kp Q G) (g_h0 : G h0) : ∀ (f : Nat) (v1 : St) (v2 : Int32), Q v1 → LkP Q (fn_X17_shift_L14 F sh n x3 x4 h0 x0 f v1 v2) := by
  intro f
  induction f with
  | zero => intros; exact LkP.none
  | succ f_8 ih =>
    intro z_7 p_6 h_z_7
    exact (LkP.ite (LkP.ite (LkP.ret h_z_7) (LkP.lts (K.2.1 _ _ _ _ h_z_7 g_h0) (fun z_12 h_z_12 => (LkP.ite (LkP.lts (K.2.1 _ _ _ _ h_z_12 g_h0) (fun z_17 h_z_17 => (LkP.ret h_z_17))) (LkP.lts (K.2.1 _ _ _ _ h_z_12 g_h0) (fun z_15 h_z_15 => (LkP.ret h_z_15))))))) (LkP.ite (LkP.lts (K.2.1 _ _ _ _ h_z_7 g_h0) (fun z_21 h_z_21 => (LkP.lts (K.2.1 _ _ _ _ h_z_21 g_h0) (fun z_23 h_z_23 => (lkp_fn_X17_shift_B84 K h_z_23 (fun z9 q8 hk_z9 => (ih _ _ hk_z9 ))))))) (LkP.lts (K.2.1 _ _ _ _ h_z_7 g_h0) (fun z_25 h_z_25 => (LkP.lts (K.2.1 _ _ _ _ h_z_25 g_h0) (fun z_27 h_z_27 => (lkp_fn_X17_shift_B84 K h_z_27 (fun z9 q8 hk_z9 => (ih _ _ hk_z9 )))))))))
theorem lkp_fn_X17_shift {F : Nat} {sh : Nat → Nat × Nat} {n : Nat} {z : St} {h0 : Nat} {x0 : Int32} {x1 : Int64} {x2 : Int64} {x3 : Int32} {x4 : Int32} (K : Kp Q G) (h_z : Q z) (g_h0 : G h0) : LkP Q (fn_X17_shift F sh n z h0 x0 x1 x2 x3 x4) := by
  unfold fn_X17_shift
  exact (LkP.xg (LkP.lts (K.2.1 _ _ _ _ h_z g_h0) (fun z_3 h_z_3 => (LkP.lts (K.2.1 _ _ _ _ h_z_3 g_h0) (fun z_5 h_z_5 => (lkp_fn_X17_shift_L14 K g_h0 _ _ _ h_z_5 ))))))
theorem lkp_fn_X15_isAlike_B104 {F : Nat} {sh : Nat → Nat × Nat} {n : Nat} {z_29 : St} {p_27 : Int32} {p_28 : Int32} (K : Kp Q G) (h_z_29 : Q z_29) : LkP Q (fn_X15_isAlike_B104 F sh n z_29 p_27 p_28) := by
  unfold fn_X15_isAlike_B104
  exact (LkP.ite (LkP.ite (LkP.ret h_z_29) (LkP.ret h_z_29)) (LkP.ret h_z_29))
theorem lkp_fn_X15_isAlike_L64 {F : Nat} {sh : Nat → Nat × Nat} {n : Nat} {rec : St → Nat → Int32 → Int32 → Option (St × Int32)} {h0 : Nat} (K : Kp Q G) (g_h0 : G h0) (hko_rec : ∀ (w0 : St) (w1 : Nat) (w2 : Int32) (w3 : Int32), Q w0 → G w1 → LkP Q (rec w0 w1 w2 w3)) : ∀ (f : Nat) (v1 : St) (v2 : Int32) (v3 : Int32), Q v1 → LkP Q (fn_X15_isAlike_L64 F sh n rec h0 f v1 v2 v3) := by
  intro f
  induction f with
  | zero => intros; exact LkP.none
  | succ f_26 ih =>
    intro z_25 p_23 p_24 h_z_25
    exact (LkP.ite (lkp_fn_X15_isAlike_B104 K h_z_25) (LkP.ite (lkp_fn_X15_isAlike_B104 K h_z_25) (LkP.xc (hko_rec _ _ _ _ h_z_25 g_h0) (fun z_34 r_35 h_z_34 => (LkP.ite (lkp_fn_X15_isAlike_B104 K h_z_34) (LkP.xl (fun k_38 q => have g_k_38 := K.2.2.2.2.2 _ _ _ _ h_z_34 g_h0 q; (LkP.xg (LkP.ltv (fun v_40 => (LkP.xl (fun k_41 q => have g_k_41 := K.2.2.2.2.2 _ _ _ _ h_z_34 g_h0 q; (LkP.xg (LkP.ltv (fun v_43 => (ih _ _ _ h_z_34 ))))))))))))))))
theorem lkp_fn_X15_isAlike {F : Nat} {sh : Nat → Nat × Nat} {n : Nat} (K : Kp Q G)  : ∀ (f : Nat) (v1 : St) (v2 : Nat) (v3 : Int32) (v4 : Int32), Q v1 → G v2 → LkP Q (fn_X15_isAlike F sh n f v1 v2 v3 v4) := by
  intro f
  induction f with
  | zero => intros; exact LkP.none
  | succ d ih =>
    intro z h0 x0 x1 h_z g_h0
    exact (LkP.xg (LkP.xl (fun k_2 q => have g_k_2 := K.2.2.2.2.2 _ _ _ _ h_z g_h0 q; (LkP.xg (LkP.xl (fun k_4 q => have g_k_4 := K.2.2.2.2.2 _ _ _ _ h_z g_h0 q; (LkP.xg (LkP.ite (LkP.xl (fun k_7 q => have g_k_7 := K.2.2.2.2.2 _ _ _ _ h_z g_h0 q; (LkP.xg (LkP.xl (fun k_9 q => have g_k_9 := K.2.2.2.2.2 _ _ _ _ h_z g_h0 q; (LkP.xg (LkP.ite (LkP.xl (fun k_12 q => have g_k_12 := K.2.2.2.2.2 _ _ _ _ h_z g_h0 q; (LkP.xg (LkP.xl (fun k_14 q => have g_k_14 := K.2.2.2.2.2 _ _ _ _ h_z g_h0 q; (LkP.xg (LkP.ite (LkP.xl (fun k_17 q => have g_k_17 := K.2.2.2.2.2 _ _ _ _ h_z g_h0 q; (LkP.xg (LkP.ltv (fun v_19 => (LkP.xl (fun k_20 q => have g_k_20 := K.2.2.2.2.2 _ _ _ _ h_z g_h0 q; (LkP.xg (LkP.ltv (fun v_22 => (lkp_fn_X15_isAlike_L64 K g_h0 (fun w0 w1 w2 w3 hw gw1 => ih w0 w1 w2 w3 hw gw1) _ _ _ _ h_z ))))))))))) (LkP.ret h_z)))))))) (LkP.ret h_z)))))))) (LkP.ret h_z)))))))))
theorem lkp_fn_X18_removeResource_L42 {F : Nat} {sh : Nat → Nat × Nat} {n : Nat} {h0 : Nat} {x0 : Int32} (K : Kp Q G) (g_h0 : G h0) : ∀ (f : Nat) (v1 : St) (v2 : Int32), Q v1 → LkP Q (fn_X18_removeResource_L42 F sh n h0 x0 f v1 v2) := by
  intro f
  induction f with
  | zero => intros; exact LkP.none
  | succ f_18 ih =>
    intro z_17 p_16 h_z_17
    exact (LkP.ite (LkP.ret h_z_17) (LkP.xl (fun k_20 q => have g_k_20 := K.2.2.2.2.2 _ _ _ _ h_z_17 g_h0 q; (LkP.xl (fun k_21 q => have g_k_21 := K.2.2.2.2.2 _ _ _ _ h_z_17 g_h0 q; (LkP.xg (LkP.xg (LkP.lts (K.1 _ _ _ _ h_z_17 g_k_20) (fun z_25 h_z_25 => (LkP.xl (fun k_26 q => have g_k_26 := K.2.2.2.2.2 _ _ _ _ h_z_25 g_h0 q; (LkP.xl (fun k_27 q => have g_k_27 := K.2.2.2.2.2 _ _ _ _ h_z_25 g_h0 q; (LkP.xg (LkP.xg (LkP.lts (K.2.1 _ _ _ _ h_z_25 g_k_26) (fun z_31 h_z_31 => (LkP.xl (fun k_32 q => have g_k_32 := K.2.2.2.2.2 _ _ _ _ h_z_31 g_h0 q; (LkP.xl (fun k_33 q => have g_k_33 := K.2.2.2.2.2 _ _ _ _ h_z_31 g_h0 q; (LkP.xg (LkP.xg (LkP.lts (K.2.1 _ _ _ _ h_z_31 g_k_32) (fun z_37 h_z_37 => (LkP.xl (fun k_38 q => have g_k_38 := K.2.2.2.2.2 _ _ _ _ h_z_37 g_h0 q; (LkP.xl (fun k_39 q => have g_k_39 := K.2.2.2.2.2 _ _ _ _ h_z_37 g_h0 q; (LkP.xg (LkP.xg (LkP.lts (K.1 _ _ _ _ h_z_37 g_k_38) (fun z_43 h_z_43 => (ih _ _ h_z_43 ))))))))))))))))))))))))))))))))))
theorem lkp_fn_X18_removeResource {F : Nat} {sh : Nat → Nat × Nat} {n : Nat} {z : St} {h0 : Nat} {x0 : Int32} (K : Kp Q G) (h_z : Q z) (g_h0 : G h0) : LkP Q (fn_X18_removeResource F sh n z h0 x0) := by
  unfold fn_X18_removeResource
  exact (LkP.xg (LkP.lts (K.1 _ _ _ _ h_z g_h0) (fun z_3 h_z_3 => (LkP.xl (fun k_4 q => have g_k_4 := K.2.2.2.2.2 _ _ _ _ h_z_3 g_h0 q; (LkP.xl (fun k_5 q => have g_k_5 := K.2.2.2.2.2 _ _ _ _ h_z_3 g_h0 q; (LkP.xg (LkP.xg (LkP.lts (K.2.1 _ _ _ _ h_z_3 g_k_4) (fun z_9 h_z_9 => (LkP.xl (fun k_10 q => have g_k_10 := K.2.2.2.2.2 _ _ _ _ h_z_9 g_h0 q; (LkP.xl (fun k_11 q => have g_k_11 := K.2.2.2.2.2 _ _ _ _ h_z_9 g_h0 q; (LkP.xg (LkP.xg (LkP.lts (K.1 _ _ _ _ h_z_9 g_k_10) (fun z_15 h_z_15 => (lkp_fn_X18_removeResource_L42 K g_h0 _ _ _ h_z_15 ))))))))))))))))))))
theorem lkp_fn_X18_argument_B91 {F : Nat} {sh : Nat → Nat × Nat} {n : Nat} {h0 : Nat} {x0 : Int32} {x1 : Int64} {x2 : Int64} {z_4 : St} (K : Kp Q G) (h_z_4 : Q z_4) (g_h0 : G h0) : LkP Q (fn_X18_argument_B91 F sh n h0 x0 x1 x2 z_4) := by
  unfold fn_X18_argument_B91
  exact (LkP.xg (LkP.ltv (fun v_6 => (LkP.ite (LkP.ret h_z_4) (LkP.xl (fun k_8 q => have g_k_8 := K.2.2.2.2.2 _ _ _ _ h_z_4 g_h0 q; (LkP.xg (LkP.ite (LkP.xl (fun k_11 q => have g_k_11 := K.2.2.2.2.2 _ _ _ _ h_z_4 g_h0 q; (LkP.xg (LkP.ite (LkP.ret h_z_4) (LkP.xl (fun k_14 q => have g_k_14 := K.2.2.2.2.2 _ _ _ _ h_z_4 g_h0 q; (LkP.xg (LkP.ltv (fun v_16 => (LkP.xl (fun k_17 q => have g_k_17 := K.2.2.2.2.2 _ _ _ _ h_z_4 g_h0 q; (LkP.xg (LkP.lts (K.1 _ _ _ _ h_z_4 g_k_17) (fun z_20 h_z_20 => (LkP.xl (fun k_21 q => have g_k_21 := K.2.2.2.2.2 _ _ _ _ h_z_20 g_h0 q; (LkP.xg (LkP.lts (K.2.1 _ _ _ _ h_z_20 g_k_21) (fun z_24 h_z_24 => (LkP.xl (fun k_25 q => have g_k_25 := K.2.2.2.2.2 _ _ _ _ h_z_24 g_h0 q; (LkP.xg (LkP.lts (K.2.1 _ _ _ _ h_z_24 g_k_25) (fun z_28 h_z_28 => (LkP.xl (fun k_29 q => have g_k_29 := K.2.2.2.2.2 _ _ _ _ h_z_28 g_h0 q; (LkP.xg (LkP.xg (LkP.lts (K.1 _ _ _ _ h_z_28 g_k_29) (fun z_33 h_z_33 => (LkP.xl (fun k_34 q => have g_k_34 := K.2.2.2.2.2 _ _ _ _ h_z_33 g_h0 q; (LkP.xg (LkP.ret h_z_33)))))))))))))))))))))))))))))))))) (LkP.ret h_z_4)))))))))
theorem lkp_fn_X18_argument_B71 {F : Nat} {sh : Nat → Nat × Nat} {n : Nat} {x0 : Int32} {h0 : Nat} {x1 : Int64} {x2 : Int64} {z_2 : St} {p_1 : Int32} (K : Kp Q G) (h_z_2 : Q z_2) (g_h0 : G h0) : LkP Q (fn_X18_argument_B71 F sh n x0 h0 x1 x2 z_2 p_1) := by
  unfold fn_X18_argument_B71
  exact (LkP.ite (LkP.ret h_z_2) (LkP.ite (lkp_fn_X18_argument_B91 K h_z_2 g_h0) (LkP.ite (lkp_fn_X18_argument_B91 K h_z_2 g_h0) (LkP.ret h_z_2))))
theorem lkp_fn_X18_argument_B70 {F : Nat} {sh : Nat → Nat × Nat} {n : Nat} {x0 : Int32} {h0 : Nat} {x1 : Int64} {x2 : Int64} {z_40 : St} (K : Kp Q G) (h_z_40 : Q z_40) (g_h0 : G h0) : LkP Q (fn_X18_argument_B70 F sh n x0 h0 x1 x2 z_40) := by
  unfold fn_X18_argument_B70
  exact (lkp_fn_X18_argument_B71 K h_z_40 g_h0)
theorem lkp_fn_X18_argument_B52 {F : Nat} {sh : Nat → Nat × Nat} {n : Nat} {x0 : Int32} {h0 : Nat} {x1 : Int64} {x2 : Int64} {z_43 : St} (K : Kp Q G) (h_z_43 : Q z_43) (g_h0 : G h0) : LkP Q (fn_X18_argument_B52 F sh n x0 h0 x1 x2 z_43) := by
  unfold fn_X18_argument_B52
  exact (lkp_fn_X18_argument_B71 K h_z_43 g_h0)
theorem lkp_fn_X18_argument_B19 {F : Nat} {sh : Nat → Nat × Nat} {n : Nat} {x0 : Int32} {h0 : Nat} {x1 : Int64} {x2 : Int64} {z_46 : St} (K : Kp Q G) (h_z_46 : Q z_46) (g_h0 : G h0) : LkP Q (fn_X18_argument_B19 F sh n x0 h0 x1 x2 z_46) := by
  unfold fn_X18_argument_B19
  exact (lkp_fn_X18_argument_B71 K h_z_46 g_h0)
theorem lkp_fn_X18_argument {F : Nat} {sh : Nat → Nat × Nat} {n : Nat} {z : St} {h0 : Nat} {x0 : Int32} {x1 : Int64} {x2 : Int64} (K : Kp Q G) (h_z : Q z) (g_h0 : G h0) : LkP Q (fn_X18_argument F sh n z h0 x0 x1 x2) := by
  unfold fn_X18_argument
  exact (LkP.ite (LkP.ite (lkp_fn_X18_argument_B19 K h_z g_h0) (LkP.ite (lkp_fn_X18_argument_B19 K h_z g_h0) (lkp_fn_X18_argument_B71 K h_z g_h0))) (LkP.ite (LkP.ite (lkp_fn_X18_argument_B52 K h_z g_h0) (LkP.ite (lkp_fn_X18_argument_B52 K h_z g_h0) (lkp_fn_X18_argument_B71 K h_z g_h0))) (LkP.ite (lkp_fn_X18_argument_B70 K h_z g_h0) (LkP.ite (lkp_fn_X18_argument_B70 K h_z g_h0) (lkp_fn_X18_argument_B71 K h_z g_h0)))))
theorem lkp_fn_X0_mix_L182 {F : Nat} {sh : Nat → Nat × Nat} {n : Nat} {h0 : Nat} (K : Kp Q G) (g_h0 : G h0) : ∀ (f : Nat) (v1 : St) (v2 : Int32) (v3 : Int32) (v4 : Int32) (v5 : Int32) (v6 : Int32) (v7 : Int32) (v8 : Int32) (v9 : Int32) (v10 : Int32), Q v1 → LkP Q (fn_X0_mix_L182 F sh n h0 f v1 v2 v3 v4 v5 v6 v7 v8 v9 v10) := by
  intro f
  induction f with
  | zero => intros; exact LkP.none
  | succ f_40 ih =>
    intro z_39 p_30 p_31 p_32 p_33 p_34 p_35 p_36 p_37 p_38 h_z_39
    exact (LkP.ite (LkP.xl (fun k_42 q => have g_k_42 := K.2.2.2.2.2 _ _ _ _ h_z_39 g_h0 q; (LkP.xg (LkP.xg (LkP.lts (K.1 _ _ _ _ h_z_39 g_k_42) (fun z_46 h_z_46 => (LkP.xl (fun k_47 q => have g_k_47 := K.2.2.2.2.2 _ _ _ _ h_z_46 g_h0 q; (LkP.xg (LkP.xg (LkP.lts (K.1 _ _ _ _ h_z_46 g_k_47) (fun z_51 h_z_51 => (LkP.xl (fun k_52 q => have g_k_52 := K.2.2.2.2.2 _ _ _ _ h_z_51 g_h0 q; (LkP.xg (LkP.xg (LkP.lts (K.1 _ _ _ _ h_z_51 g_k_52) (fun z_56 h_z_56 => (LkP.xl (fun k_57 q => have g_k_57 := K.2.2.2.2.2 _ _ _ _ h_z_56 g_h0 q; (LkP.xg (LkP.xg (LkP.lts (K.1 _ _ _ _ h_z_56 g_k_57) (fun z_61 h_z_61 => (LkP.xl (fun k_62 q => have g_k_62 := K.2.2.2.2.2 _ _ _ _ h_z_61 g_h0 q; (LkP.xg (LkP.xg (LkP.lts (K.1 _ _ _ _ h_z_61 g_k_62) (fun z_66 h_z_66 => (LkP.xl (fun k_67 q => have g_k_67 := K.2.2.2.2.2 _ _ _ _ h_z_66 g_h0 q; (LkP.xg (LkP.xg (LkP.lts (K.1 _ _ _ _ h_z_66 g_k_67) (fun z_71 h_z_71 => (LkP.xl (fun k_72 q => have g_k_72 := K.2.2.2.2.2 _ _ _ _ h_z_71 g_h0 q; (LkP.xg (LkP.xg (LkP.lts (K.1 _ _ _ _ h_z_71 g_k_72) (fun z_76 h_z_76 => (LkP.xl (fun k_77 q => have g_k_77 := K.2.2.2.2.2 _ _ _ _ h_z_76 g_h0 q; (LkP.xg (LkP.xg (LkP.lts (K.1 _ _ _ _ h_z_76 g_k_77) (fun z_81 h_z_81 => (LkP.ret h_z_81))))))))))))))))))))))))))))))))))))))))))))))))) (LkP.ltv (fun v_82 => (LkP.xg (LkP.xl (fun k_84 q => have g_k_84 := K.2.2.2.2.2 _ _ _ _ h_z_39 g_h0 q; (LkP.xg (LkP.ltv (fun v_86 => (LkP.ltv (fun v_87 => (LkP.ltv (fun v_88 => (LkP.ltv (fun v_89 => (LkP.ltv (fun v_90 => (ih _ _ _ _ _ _ _ _ _ _ h_z_39 ))))))))))))))))))
theorem lkp_fn_X0_mix_L3 {F : Nat} {sh : Nat → Nat × Nat} {n : Nat} {h0 : Nat} (K : Kp Q G) (g_h0 : G h0) : ∀ (f : Nat) (v1 : St) (v2 : Int32), Q v1 → LkP Q (fn_X0_mix_L3 F sh n h0 f v1 v2) := by
  intro f
  induction f with
  | zero => intros; exact LkP.none
  | succ f_3 ih =>
    intro z_2 p_1 h_z_2
    exact (LkP.ite (LkP.xg (LkP.xl (fun k_6 q => have g_k_6 := K.2.2.2.2.2 _ _ _ _ h_z_2 g_h0 q; (LkP.xg (LkP.ltv (fun v_8 => (LkP.xl (fun k_9 q => have g_k_9 := K.2.2.2.2.2 _ _ _ _ h_z_2 g_h0 q; (LkP.xg (LkP.ltv (fun v_11 => (LkP.xl (fun k_12 q => have g_k_12 := K.2.2.2.2.2 _ _ _ _ h_z_2 g_h0 q; (LkP.xg (LkP.ltv (fun v_14 => (LkP.xl (fun k_15 q => have g_k_15 := K.2.2.2.2.2 _ _ _ _ h_z_2 g_h0 q; (LkP.xg (LkP.ltv (fun v_17 => (LkP.xl (fun k_18 q => have g_k_18 := K.2.2.2.2.2 _ _ _ _ h_z_2 g_h0 q; (LkP.xg (LkP.ltv (fun v_20 => (LkP.xl (fun k_21 q => have g_k_21 := K.2.2.2.2.2 _ _ _ _ h_z_2 g_h0 q; (LkP.xg (LkP.ltv (fun v_23 => (LkP.xl (fun k_24 q => have g_k_24 := K.2.2.2.2.2 _ _ _ _ h_z_2 g_h0 q; (LkP.xg (LkP.ltv (fun v_26 => (LkP.xl (fun k_27 q => have g_k_27 := K.2.2.2.2.2 _ _ _ _ h_z_2 g_h0 q; (LkP.xg (LkP.ltv (fun v_29 => (lkp_fn_X0_mix_L182 K g_h0 _ _ _ _ _ _ _ _ _ _ _ h_z_2 )))))))))))))))))))))))))))))))))))))))))) (LkP.xg (LkP.xl (fun k_92 q => have g_k_92 := K.2.2.2.2.2 _ _ _ _ h_z_2 g_h0 q; (LkP.xg (LkP.ltv (fun v_94 => (LkP.xl (fun k_95 q => have g_k_95 := K.2.2.2.2.2 _ _ _ _ h_z_2 g_h0 q; (LkP.xg (LkP.ltv (fun v_97 => (LkP.ltv (fun v_98 => (LkP.ltv (fun v_99 => (LkP.xl (fun k_100 q => have g_k_100 := K.2.2.2.2.2 _ _ _ _ h_z_2 g_h0 q; (LkP.xl (fun k_101 q => have g_k_101 := K.2.2.2.2.2 _ _ _ _ h_z_2 g_h0 q; (LkP.xg (LkP.xl (fun k_103 q => have g_k_103 := K.2.2.2.2.2 _ _ _ _ h_z_2 g_h0 q; (LkP.xg (LkP.xg (LkP.lts (K.1 _ _ _ _ h_z_2 g_k_100) (fun z_107 h_z_107 => (ih _ _ h_z_107 ))))))))))))))))))))))))))))
theorem lkp_fn_X0_mix {F : Nat} {sh : Nat → Nat × Nat} {n : Nat} {z : St} {h0 : Nat} (K : Kp Q G) (h_z : Q z) (g_h0 : G h0) : LkP Q (fn_X0_mix F sh n z h0) := by
  unfold fn_X0_mix
  exact (lkp_fn_X0_mix_L3 K g_h0 _ _ _ h_z )
theorem lkp_fn_X11_slips {F : Nat} {sh : Nat → Nat × Nat} {n : Nat} {z : St} {h0 : Nat} (K : Kp Q G) (h_z : Q z) (g_h0 : G h0) : LkP Q (fn_X11_slips F sh n z h0) := by
  unfold fn_X11_slips
  exact (LkP.xg (LkP.xl (fun k_2 q => have g_k_2 := K.2.2.2.2.2 _ _ _ _ h_z g_h0 q; (LkP.xg (LkP.xc (lkp_fn_X4_slipCount K h_z g_k_2) (fun z_3 r_4 h_z_3 => (LkP.ret h_z_3)))))))
theorem lkp_fn_X5_fieldCount {F : Nat} {sh : Nat → Nat × Nat} {n : Nat} {z : St} {h0 : Nat} {x0 : Int32} (K : Kp Q G) (h_z : Q z) (g_h0 : G h0) : LkP Q (fn_X5_fieldCount F sh n z h0 x0) := by
  unfold fn_X5_fieldCount
  exact (LkP.xg (LkP.xc (lkp_fn_X5_structureColumn K h_z g_h0) (fun z_1 r_2 h_z_1 => (LkP.ret h_z_1))))
theorem lkp_fn_X5_flags {F : Nat} {sh : Nat → Nat × Nat} {n : Nat} {z : St} {h0 : Nat} {x0 : Int32} (K : Kp Q G) (h_z : Q z) (g_h0 : G h0) : LkP Q (fn_X5_flags F sh n z h0 x0) := by
  unfold fn_X5_flags
  exact (LkP.xg (LkP.xc (lkp_fn_X5_functionColumn K h_z g_h0) (fun z_1 r_2 h_z_1 => (LkP.ret h_z_1))))
theorem lkp_fn_X5_gives {F : Nat} {sh : Nat → Nat × Nat} {n : Nat} {z : St} {h0 : Nat} {x0 : Int32} (K : Kp Q G) (h_z : Q z) (g_h0 : G h0) : LkP Q (fn_X5_gives F sh n z h0 x0) := by
  unfold fn_X5_gives
  exact (LkP.xg (LkP.xc (lkp_fn_X5_functionColumn K h_z g_h0) (fun z_1 r_2 h_z_1 => (LkP.ret h_z_1))))
theorem lkp_fn_X5_instructions {F : Nat} {sh : Nat → Nat × Nat} {n : Nat} {z : St} {h0 : Nat} {x0 : Int32} (K : Kp Q G) (h_z : Q z) (g_h0 : G h0) : LkP Q (fn_X5_instructions F sh n z h0 x0) := by
  unfold fn_X5_instructions
  exact (LkP.xg (LkP.xc (lkp_fn_X5_functionColumn K h_z g_h0) (fun z_1 r_2 h_z_1 => (LkP.ret h_z_1))))
theorem lkp_fn_X5_takes {F : Nat} {sh : Nat → Nat × Nat} {n : Nat} {z : St} {h0 : Nat} {x0 : Int32} (K : Kp Q G) (h_z : Q z) (g_h0 : G h0) : LkP Q (fn_X5_takes F sh n z h0 x0) := by
  unfold fn_X5_takes
  exact (LkP.xg (LkP.xc (lkp_fn_X5_functionColumn K h_z g_h0) (fun z_1 r_2 h_z_1 => (LkP.ret h_z_1))))
theorem lkp_fn_X13_need {F : Nat} {sh : Nat → Nat × Nat} {n : Nat} {z : St} {h0 : Nat} {x0 : Int32} {x1 : Int32} (K : Kp Q G) (h_z : Q z) (g_h0 : G h0) : LkP Q (fn_X13_need F sh n z h0 x0 x1) := by
  unfold fn_X13_need
  exact (LkP.ite (LkP.xg (LkP.xc (lkp_fn_X13_fail K h_z g_h0) (fun z_2 _ h_z_2 => (LkP.ret h_z_2)))) (LkP.ret h_z))
theorem lkp_fn_X5_elementType {F : Nat} {sh : Nat → Nat × Nat} {n : Nat} {z : St} {h0 : Nat} {x0 : Int32} (K : Kp Q G) (h_z : Q z) (g_h0 : G h0) : LkP Q (fn_X5_elementType F sh n z h0 x0) := by
  unfold fn_X5_elementType
  exact (LkP.xg (LkP.xc (lkp_fn_X5_typeAt K h_z g_h0) (fun z_2 r_3 h_z_2 => (LkP.ret h_z_2))))
theorem lkp_fn_X3_writes {F : Nat} {sh : Nat → Nat × Nat} {n : Nat} {z : St} {x0 : Int64} (K : Kp Q G) (h_z : Q z) : LkP Q (fn_X3_writes F sh n z x0) := by
  unfold fn_X3_writes
  exact (LkP.xc (lkp_fn_X5_head K h_z) (fun z_1 r_2 h_z_1 => (LkP.ite (LkP.ret h_z_1) (LkP.ret h_z_1))))
theorem lkp_fn_X5_isReference {F : Nat} {sh : Nat → Nat × Nat} {n : Nat} {z : St} {x0 : Int64} (K : Kp Q G) (h_z : Q z) : LkP Q (fn_X5_isReference F sh n z x0) := by
  unfold fn_X5_isReference
  exact (LkP.xc (lkp_fn_X5_head K h_z) (fun z_1 r_2 h_z_1 => (LkP.ite (LkP.ret h_z_1) (LkP.ret h_z_1))))
theorem lkp_fn_X16_fieldsOf {F : Nat} {sh : Nat → Nat × Nat} {n : Nat} {z : St} {h0 : Nat} {x0 : Int32} (K : Kp Q G) (h_z : Q z) (g_h0 : G h0) : LkP Q (fn_X16_fieldsOf F sh n z h0 x0) := by
  unfold fn_X16_fieldsOf
  exact (LkP.xg (LkP.xl (fun k_2 q => have g_k_2 := K.2.2.2.2.2 _ _ _ _ h_z g_h0 q; (LkP.xg (LkP.xc (lkp_fn_X16_byteAt K h_z g_h0) (fun z_4 r_5 h_z_4 => (LkP.ret h_z_4)))))))
theorem lkp_fn_X4_pushNumber {F : Nat} {sh : Nat → Nat × Nat} {n : Nat} {z : St} {h0 : Nat} {x0 : Int32} {x1 : Int64} {x2 : Int64} (K : Kp Q G) (h_z : Q z) (g_h0 : G h0) : LkP Q (fn_X4_pushNumber F sh n z h0 x0 x1 x2) := by
  unfold fn_X4_pushNumber
  exact (LkP.xg (LkP.xl (fun k_2 q => have g_k_2 := K.2.2.2.2.2 _ _ _ _ h_z g_h0 q; (LkP.xg (LkP.xc (lkp_fn_X1_make K h_z g_k_2) (fun z_3 r_4 h_z_3 => (LkP.xc (lkp_fn_X4_push K h_z_3 g_h0) (fun z_7 _ h_z_7 => (LkP.ret h_z_7)))))))))
theorem lkp_fn_X5_fieldType {F : Nat} {sh : Nat → Nat × Nat} {n : Nat} {z : St} {h0 : Nat} {x0 : Int32} {x1 : Int32} (K : Kp Q G) (h_z : Q z) (g_h0 : G h0) : LkP Q (fn_X5_fieldType F sh n z h0 x0 x1) := by
  unfold fn_X5_fieldType
  exact (LkP.xg (LkP.xc (lkp_fn_X5_structureColumn K h_z g_h0) (fun z_1 r_2 h_z_1 => (LkP.xc (lkp_fn_X5_typeAt K h_z_1 g_h0) (fun z_5 r_6 h_z_5 => (LkP.ret h_z_5))))))
theorem lkp_fn_X5_pointee {F : Nat} {sh : Nat → Nat × Nat} {n : Nat} {z : St} {x0 : Int64} (K : Kp Q G) (h_z : Q z) : LkP Q (fn_X5_pointee F sh n z x0) := by
  unfold fn_X5_pointee
  exact (LkP.xc (lkp_fn_X5_headShift K h_z) (fun z_1 r_2 h_z_1 => (LkP.ret h_z_1)))
theorem lkp_fn_X5_takenType {F : Nat} {sh : Nat → Nat × Nat} {n : Nat} {z : St} {h0 : Nat} {x0 : Int32} {x1 : Int32} (K : Kp Q G) (h_z : Q z) (g_h0 : G h0) : LkP Q (fn_X5_takenType F sh n z h0 x0 x1) := by
  unfold fn_X5_takenType
  exact (LkP.xg (LkP.xc (lkp_fn_X5_functionColumn K h_z g_h0) (fun z_1 r_2 h_z_1 => (LkP.xc (lkp_fn_X5_typeAt K h_z_1 g_h0) (fun z_5 r_6 h_z_5 => (LkP.ret h_z_5))))))
theorem lkp_fn_X13_before {F : Nat} {sh : Nat → Nat × Nat} {n : Nat} {z : St} {x0 : Int32} {x1 : Int64} (K : Kp Q G) (h_z : Q z) : LkP Q (fn_X13_before F sh n z x0 x1) := by
  unfold fn_X13_before
  exact (LkP.xc (lkp_fn_X13_bytesOf K h_z) (fun z_1 r_2 h_z_1 => (LkP.ret h_z_1)))
theorem lkp_fn_X5_lay {F : Nat} {sh : Nat → Nat × Nat} {n : Nat} {z : St} {h0 : Nat} {x0 : Nat} (K : Kp Q G) (h_z : Q z) (g_h0 : G h0) (g_x0 : G x0) : LkP Q (fn_X5_lay F sh n z h0 x0) := by
  unfold fn_X5_lay
  exact (LkP.xg (LkP.lts (K.2.2.1 _ _ _ _ h_z g_h0 (some_q g_x0)) (fun z_3 h_z_3 => (LkP.xb (fun v_4 => (LkP.lts (K.1 _ _ _ _ h_z_3 g_h0) (fun z_6 h_z_6 => (LkP.xc (lkp_fn_X5_clear K h_z_6 g_h0) (fun z_7 _ h_z_7 => (LkP.ret h_z_7))))))))))
theorem lkp_fn_X6_readShort {F : Nat} {sh : Nat → Nat × Nat} {n : Nat} {z : St} {h0 : Nat} (K : Kp Q G) (h_z : Q z) (g_h0 : G h0) : LkP Q (fn_X6_readShort F sh n z h0) := by
  unfold fn_X6_readShort
  exact (LkP.xg (LkP.xc (lkp_fn_X6_readByte K h_z g_h0) (fun z_1 r_2 h_z_1 => (LkP.xc (lkp_fn_X6_readByte K h_z_1 g_h0) (fun z_5 r_6 h_z_5 => (LkP.ret h_z_5))))))
theorem lkp_fn_X18_code {F : Nat} {sh : Nat → Nat × Nat} {n : Nat} {z : St} {h0 : Nat} {x0 : Int32} (K : Kp Q G) (h_z : Q z) (g_h0 : G h0) : LkP Q (fn_X18_code F sh n z h0 x0) := by
  unfold fn_X18_code
  exact (LkP.xg (LkP.xc (lkp_fn_X18_isDone K h_z g_h0) (fun z_1 r_2 h_z_1 => (LkP.ite (LkP.ret h_z_1) (LkP.xl (fun k_6 q => have g_k_6 := K.2.2.2.2.2 _ _ _ _ h_z_1 g_h0 q; (LkP.xg (LkP.ret h_z_1))))))))
theorem lkp_fn_X18_slip {F : Nat} {sh : Nat → Nat × Nat} {n : Nat} {z : St} {h0 : Nat} (K : Kp Q G) (h_z : Q z) (g_h0 : G h0) : LkP Q (fn_X18_slip F sh n z h0) := by
  unfold fn_X18_slip
  exact (LkP.xg (LkP.lts (K.1 _ _ _ _ h_z g_h0) (fun z_3 h_z_3 => (LkP.xc (lkp_fn_X18_end K h_z_3 g_h0) (fun z_4 _ h_z_4 => (LkP.ret h_z_4))))))
theorem lkp_fn_X13_writes {F : Nat} {sh : Nat → Nat × Nat} {n : Nat} {z : St} {x0 : Int64} (K : Kp Q G) (h_z : Q z) : LkP Q (fn_X13_writes F sh n z x0) := by
  unfold fn_X13_writes
  exact (LkP.xc (lkp_fn_X13_bytesOf K h_z) (fun z_1 r_2 h_z_1 => (LkP.xc (lkp_fn_X13_byteOf K h_z_1) (fun z_4 r_5 h_z_4 => (LkP.ite (LkP.ret h_z_4) (LkP.ret h_z_4))))))
theorem lkp_fn_X16_foreignNumber {F : Nat} {sh : Nat → Nat × Nat} {n : Nat} {z : St} {h0 : Nat} {x0 : Int32} (K : Kp Q G) (h_z : Q z) (g_h0 : G h0) : LkP Q (fn_X16_foreignNumber F sh n z h0 x0) := by
  unfold fn_X16_foreignNumber
  exact (LkP.xg (LkP.xl (fun k_2 q => have g_k_2 := K.2.2.2.2.2 _ _ _ _ h_z g_h0 q; (LkP.xg (LkP.xc (lkp_fn_X16_byteAt K h_z g_h0) (fun z_4 r_5 h_z_4 => (LkP.ret h_z_4)))))))
theorem lkp_fn_X16_operation {F : Nat} {sh : Nat → Nat × Nat} {n : Nat} {z : St} {h0 : Nat} {x0 : Int32} {x1 : Int32} (K : Kp Q G) (h_z : Q z) (g_h0 : G h0) : LkP Q (fn_X16_operation F sh n z h0 x0 x1) := by
  unfold fn_X16_operation
  exact (LkP.xg (LkP.xl (fun k_2 q => have g_k_2 := K.2.2.2.2.2 _ _ _ _ h_z g_h0 q; (LkP.xl (fun k_3 q => have g_k_3 := K.2.2.2.2.2 _ _ _ _ h_z g_h0 q; (LkP.xg (LkP.xg (LkP.xc (lkp_fn_X16_byteAt K h_z g_h0) (fun z_6 r_7 h_z_6 => (LkP.ret h_z_6))))))))))
theorem lkp_fn_X16_shortAt {F : Nat} {sh : Nat → Nat × Nat} {n : Nat} {z : St} {h0 : Nat} {x0 : Int32} (K : Kp Q G) (h_z : Q z) (g_h0 : G h0) : LkP Q (fn_X16_shortAt F sh n z h0 x0) := by
  unfold fn_X16_shortAt
  exact (LkP.xg (LkP.xc (lkp_fn_X16_byteAt K h_z g_h0) (fun z_1 r_2 h_z_1 => (LkP.xc (lkp_fn_X16_byteAt K h_z_1 g_h0) (fun z_5 r_6 h_z_5 => (LkP.ret h_z_5))))))
theorem lkp_fn_X6_pass_L2 {F : Nat} {sh : Nat → Nat × Nat} {n : Nat} {x0 : Int32} {h0 : Nat} (K : Kp Q G) (g_h0 : G h0) : ∀ (f : Nat) (v1 : St) (v2 : Int32), Q v1 → LkP Q (fn_X6_pass_L2 F sh n x0 h0 f v1 v2) := by
  intro f
  induction f with
  | zero => intros; exact LkP.none
  | succ f_3 ih =>
    intro z_2 p_1 h_z_2
    exact (LkP.ite (LkP.ret h_z_2) (LkP.xg (LkP.ite (LkP.xc (lkp_fn_X6_readByte K h_z_2 g_h0) (fun z_7 r_8 h_z_7 => (ih _ _ h_z_7 ))) (LkP.ret h_z_2))))
theorem lkp_fn_X6_pass {F : Nat} {sh : Nat → Nat × Nat} {n : Nat} {z : St} {h0 : Nat} {x0 : Int32} (K : Kp Q G) (h_z : Q z) (g_h0 : G h0) : LkP Q (fn_X6_pass F sh n z h0 x0) := by
  unfold fn_X6_pass
  exact (lkp_fn_X6_pass_L2 K g_h0 _ _ _ h_z )
theorem lkp_fn_X13_pointed {F : Nat} {sh : Nat → Nat × Nat} {n : Nat} {z : St} {x0 : Int64} (K : Kp Q G) (h_z : Q z) : LkP Q (fn_X13_pointed F sh n z x0) := by
  unfold fn_X13_pointed
  exact (LkP.xc (lkp_fn_X13_bytesOf K h_z) (fun z_1 r_2 h_z_1 => (LkP.ltv (fun v_4 => (LkP.ret h_z_1)))))
theorem lkp_fn_X16_abilitiesOf {F : Nat} {sh : Nat → Nat × Nat} {n : Nat} {z : St} {h0 : Nat} {x0 : Int32} (K : Kp Q G) (h_z : Q z) (g_h0 : G h0) : LkP Q (fn_X16_abilitiesOf F sh n z h0 x0) := by
  unfold fn_X16_abilitiesOf
  exact (LkP.xg (LkP.xl (fun k_2 q => have g_k_2 := K.2.2.2.2.2 _ _ _ _ h_z g_h0 q; (LkP.xg (LkP.ite (LkP.xc (lkp_fn_X16_byteAt K h_z g_h0) (fun z_5 r_6 h_z_5 => (LkP.ret h_z_5))) (LkP.xc (lkp_fn_X16_byteAt K h_z g_h0) (fun z_8 r_9 h_z_8 => (LkP.ret h_z_8))))))))
theorem lkp_fn_X0_copyTo_L2 {F : Nat} {sh : Nat → Nat × Nat} {n : Nat} {h0 : Nat} {x0 : Nat} {x1 : Int32} (K : Kp Q G) (g_h0 : G h0) (g_x0 : G x0) : ∀ (f : Nat) (v1 : St) (v2 : Int32), Q v1 → LkP Q (fn_X0_copyTo_L2 F sh n h0 x0 x1 f v1 v2) := by
  intro f
  induction f with
  | zero => intros; exact LkP.none
  | succ f_3 ih =>
    intro z_2 p_1 h_z_2
    exact (LkP.ite (LkP.ret h_z_2) (LkP.xg (LkP.xc (lkp_fn_X0_part K h_z_2 g_h0) (fun z_5 r_6 h_z_5 => (LkP.xg (LkP.lts (K.2.1 _ _ _ _ h_z_5 g_x0) (fun z_11 h_z_11 => (ih _ _ h_z_11 ))))))))
theorem lkp_fn_X0_copyTo {F : Nat} {sh : Nat → Nat × Nat} {n : Nat} {z : St} {h0 : Nat} {x0 : Nat} {x1 : Int32} (K : Kp Q G) (h_z : Q z) (g_h0 : G h0) (g_x0 : G x0) : LkP Q (fn_X0_copyTo F sh n z h0 x0 x1) := by
  unfold fn_X0_copyTo
  exact (lkp_fn_X0_copyTo_L2 K g_h0 g_x0 _ _ _ h_z )
theorem lkp_fn_X12_addNumber_L5 {F : Nat} {sh : Nat → Nat × Nat} {n : Nat} {h0 : Nat} {x0 : Int64} (K : Kp Q G) (g_h0 : G h0) : ∀ (f : Nat) (v1 : St) (v2 : Int32), Q v1 → LkP Q (fn_X12_addNumber_L5 F sh n h0 x0 f v1 v2) := by
  intro f
  induction f with
  | zero => intros; exact LkP.none
  | succ f_4 ih =>
    intro z_3 p_2 h_z_3
    exact (LkP.ite (LkP.ret h_z_3) (LkP.xg (LkP.xc (lkp_fn_X12_add K h_z_3 g_h0) (fun z_6 _ h_z_6 => (ih _ _ h_z_6 )))))
theorem lkp_fn_X12_addNumber {F : Nat} {sh : Nat → Nat × Nat} {n : Nat} {z : St} {h0 : Nat} {x0 : Int64} {x1 : Int32} (K : Kp Q G) (h_z : Q z) (g_h0 : G h0) : LkP Q (fn_X12_addNumber F sh n z h0 x0 x1) := by
  unfold fn_X12_addNumber
  exact (LkP.ltv (fun v_1 => (lkp_fn_X12_addNumber_L5 K g_h0 _ _ _ h_z )))
theorem lkp_fn_X13_isReference {F : Nat} {sh : Nat → Nat × Nat} {n : Nat} {z : St} {x0 : Int64} (K : Kp Q G) (h_z : Q z) : LkP Q (fn_X13_isReference F sh n z x0) := by
  unfold fn_X13_isReference
  exact (LkP.xc (lkp_fn_X13_bytesOf K h_z) (fun z_1 r_2 h_z_1 => (LkP.xc (lkp_fn_X13_byteOf K h_z_1) (fun z_4 r_5 h_z_4 => (LkP.ite (LkP.ret h_z_4) (LkP.ite (LkP.ret h_z_4) (LkP.ret h_z_4)))))))
theorem lkp_fn_X5_prefixed {F : Nat} {sh : Nat → Nat × Nat} {n : Nat} {z : St} {x0 : Int32} {x1 : Int64} (K : Kp Q G) (h_z : Q z) : LkP Q (fn_X5_prefixed F sh n z x0 x1) := by
  unfold fn_X5_prefixed
  exact (LkP.xc (lkp_fn_X5_headShift K h_z) (fun z_1 r_2 h_z_1 => (LkP.ltv (fun v_4 => (LkP.ite (LkP.ret h_z_1) (LkP.ret h_z_1))))))
theorem lkp_fn_X16_isStructureType_L2 {F : Nat} {sh : Nat → Nat × Nat} {n : Nat} {h0 : Nat} (K : Kp Q G) (g_h0 : G h0) : ∀ (f : Nat) (v1 : St) (v2 : Int32), Q v1 → LkP Q (fn_X16_isStructureType_L2 F sh n h0 f v1 v2) := by
  intro f
  induction f with
  | zero => intros; exact LkP.none
  | succ f_3 ih =>
    intro z_2 p_1 h_z_2
    exact (LkP.xg (LkP.xc (lkp_fn_X16_byteAt K h_z_2 g_h0) (fun z_4 r_5 h_z_4 => (LkP.ite (LkP.xc (lkp_fn_X16_byteAt K h_z_4 g_h0) (fun z_9 r_10 h_z_9 => (LkP.ite (LkP.ret h_z_9) (LkP.ret h_z_9)))) (ih _ _ h_z_4 )))))
theorem lkp_fn_X16_isStructureType {F : Nat} {sh : Nat → Nat × Nat} {n : Nat} {z : St} {h0 : Nat} {x0 : Int32} (K : Kp Q G) (h_z : Q z) (g_h0 : G h0) : LkP Q (fn_X16_isStructureType F sh n z h0 x0) := by
  unfold fn_X16_isStructureType
  exact (lkp_fn_X16_isStructureType_L2 K g_h0 _ _ _ h_z )
theorem lkp_fn_X5_deepStructure_L2 {F : Nat} {sh : Nat → Nat × Nat} {n : Nat} {h0 : Nat} (K : Kp Q G) (g_h0 : G h0) : ∀ (f : Nat) (v1 : St) (v2 : Int32), Q v1 → LkP Q (fn_X5_deepStructure_L2 F sh n h0 f v1 v2) := by
  intro f
  induction f with
  | zero => intros; exact LkP.none
  | succ f_3 ih =>
    intro z_2 p_1 h_z_2
    exact (LkP.xg (LkP.ite (LkP.ret h_z_2) (LkP.xc (lkp_fn_X5_structureColumn K h_z_2 g_h0) (fun z_6 r_7 h_z_6 => (LkP.ite (ih _ _ h_z_6 ) (LkP.ret h_z_6))))))
theorem lkp_fn_X5_deepStructure {F : Nat} {sh : Nat → Nat × Nat} {n : Nat} {z : St} {h0 : Nat} (K : Kp Q G) (h_z : Q z) (g_h0 : G h0) : LkP Q (fn_X5_deepStructure F sh n z h0) := by
  unfold fn_X5_deepStructure
  exact (lkp_fn_X5_deepStructure_L2 K g_h0 _ _ _ h_z )
theorem lkp_fn_X6_readJudged {F : Nat} {sh : Nat → Nat × Nat} {n : Nat} {z : St} {h0 : Nat} {x0 : Int32} {x1 : Int32} (K : Kp Q G) (h_z : Q z) (g_h0 : G h0) : LkP Q (fn_X6_readJudged F sh n z h0 x0 x1) := by
  unfold fn_X6_readJudged
  exact (LkP.xg (LkP.ltv (fun v_2 => (LkP.xc (lkp_fn_X6_readByte K h_z g_h0) (fun z_3 r_4 h_z_3 => (LkP.ite (LkP.ret h_z_3) (LkP.ite (LkP.ret h_z_3) (LkP.xc (lkp_fn_X6_fail K h_z_3 g_h0) (fun z_8 _ h_z_8 => (LkP.ret h_z_8))))))))))
theorem lkp_fn_X4_append {F : Nat} {sh : Nat → Nat × Nat} {n : Nat} {z : St} {h0 : Nat} {x0 : Int32} {x1 : Int64} (K : Kp Q G) (h_z : Q z) (g_h0 : G h0) : LkP Q (fn_X4_append F sh n z h0 x0 x1) := by
  unfold fn_X4_append
  exact (LkP.ite (LkP.xg (LkP.xl (fun k_3 q => have g_k_3 := K.2.2.2.2.2 _ _ _ _ h_z g_h0 q; (LkP.xc (lkp_fn_X4_pop K h_z g_h0) (fun z_4 r_5 h_z_4 => (LkP.xg (LkP.xc (lkp_fn_X1_prepend K h_z_4 g_k_3) (fun z_7 _ h_z_7 => (LkP.xc (lkp_fn_X4_pop K h_z_7 g_h0) (fun z_10 r_11 h_z_10 => (LkP.ret h_z_10))))))))))) (LkP.xg (LkP.xc (lkp_fn_X4_end K h_z g_h0) (fun z_13 _ h_z_13 => (LkP.ret h_z_13)))))
theorem lkp_fn_X4_popOf {F : Nat} {sh : Nat → Nat × Nat} {n : Nat} {z : St} {h0 : Nat} {x0 : Int32} (K : Kp Q G) (h_z : Q z) (g_h0 : G h0) : LkP Q (fn_X4_popOf F sh n z h0 x0) := by
  unfold fn_X4_popOf
  exact (LkP.xg (LkP.xc (lkp_fn_X4_pop K h_z g_h0) (fun z_1 r_2 h_z_1 => (LkP.xl (fun k_5 q => have g_k_5 := K.2.2.2.2.2 _ _ _ _ h_z_1 g_h0 q; (LkP.xg (LkP.xl (fun k_7 q => have g_k_7 := K.2.2.2.2.2 _ _ _ _ h_z_1 g_k_5 q; (LkP.xg (LkP.ite (LkP.ret h_z_1) (LkP.xl (fun k_10 q => have g_k_10 := K.2.2.2.2.2 _ _ _ _ h_z_1 g_h0 q; (LkP.xg (LkP.lts (K.1 _ _ _ _ h_z_1 g_k_10) (fun z_13 h_z_13 => (LkP.ret h_z_13))))))))))))))))
theorem lkp_fn_X11_coins {F : Nat} {sh : Nat → Nat × Nat} {n : Nat} {z : St} {h0 : Nat} {x0 : Int32} (K : Kp Q G) (h_z : Q z) (g_h0 : G h0) : LkP Q (fn_X11_coins F sh n z h0 x0) := by
  unfold fn_X11_coins
  exact (LkP.ite (LkP.xg (LkP.xl (fun k_3 q => have g_k_3 := K.2.2.2.2.2 _ _ _ _ h_z g_h0 q; (LkP.xg (LkP.ret h_z))))) (LkP.ite (LkP.xg (LkP.xl (fun k_7 q => have g_k_7 := K.2.2.2.2.2 _ _ _ _ h_z g_h0 q; (LkP.xg (LkP.ret h_z))))) (LkP.ite (LkP.xg (LkP.xl (fun k_11 q => have g_k_11 := K.2.2.2.2.2 _ _ _ _ h_z g_h0 q; (LkP.xg (LkP.xc (lkp_fn_X7_allBalances K h_z g_k_11) (fun z_12 r_13 h_z_12 => (LkP.ret h_z_12))))))) (LkP.ite (LkP.xg (LkP.xl (fun k_18 q => have g_k_18 := K.2.2.2.2.2 _ _ _ _ h_z g_h0 q; (LkP.xg (LkP.xc (lkp_fn_X7_storedCoins K h_z g_k_18) (fun z_19 r_20 h_z_19 => (LkP.ret h_z_19))))))) (LkP.ret h_z)))))
theorem lkp_fn_X11_places {F : Nat} {sh : Nat → Nat × Nat} {n : Nat} {z : St} {h0 : Nat} {x0 : Int32} (K : Kp Q G) (h_z : Q z) (g_h0 : G h0) : LkP Q (fn_X11_places F sh n z h0 x0) := by
  unfold fn_X11_places
  exact (LkP.ite (LkP.xg (LkP.xl (fun k_3 q => have g_k_3 := K.2.2.2.2.2 _ _ _ _ h_z g_h0 q; (LkP.xg (LkP.xc (lkp_fn_X7_placeCount K h_z g_k_3) (fun z_4 r_5 h_z_4 => (LkP.ret h_z_4))))))) (LkP.ite (LkP.xg (LkP.xl (fun k_10 q => have g_k_10 := K.2.2.2.2.2 _ _ _ _ h_z g_h0 q; (LkP.xg (LkP.ret h_z))))) (LkP.ite (LkP.xg (LkP.xl (fun k_14 q => have g_k_14 := K.2.2.2.2.2 _ _ _ _ h_z g_h0 q; (LkP.xg (LkP.ret h_z))))) (LkP.ite (LkP.xg (LkP.xl (fun k_18 q => have g_k_18 := K.2.2.2.2.2 _ _ _ _ h_z g_h0 q; (LkP.xg (LkP.ret h_z))))) (LkP.ret h_z)))))
theorem lkp_fn_X5_instructionPlace {F : Nat} {sh : Nat → Nat × Nat} {n : Nat} {z : St} {h0 : Nat} {x0 : Int32} {x1 : Int32} (K : Kp Q G) (h_z : Q z) (g_h0 : G h0) : LkP Q (fn_X5_instructionPlace F sh n z h0 x0 x1) := by
  unfold fn_X5_instructionPlace
  exact (LkP.xg (LkP.xc (lkp_fn_X5_functionColumn K h_z g_h0) (fun z_1 r_2 h_z_1 => (LkP.ltv (fun v_5 => (LkP.ite (LkP.ret h_z_1) (LkP.ite (LkP.xl (fun k_8 q => have g_k_8 := K.2.2.2.2.2 _ _ _ _ h_z_1 g_h0 q; (LkP.xg (LkP.ret h_z_1)))) (LkP.ret h_z_1))))))))
theorem lkp_fn_X7_removeResource {F : Nat} {sh : Nat → Nat × Nat} {n : Nat} {z : St} {h0 : Nat} {x0 : Int64} {x1 : Int32} {x2 : Int32} (K : Kp Q G) (h_z : Q z) (g_h0 : G h0) : LkP Q (fn_X7_removeResource F sh n z h0 x0 x1 x2) := by
  unfold fn_X7_removeResource
  exact (LkP.xg (LkP.xc (lkp_fn_X7_findResource K h_z g_h0) (fun z_1 r_2 h_z_1 => (LkP.ite (LkP.ret h_z_1) (LkP.xl (fun k_6 q => have g_k_6 := K.2.2.2.2.2 _ _ _ _ h_z_1 g_h0 q; (LkP.xg (LkP.lts (K.1 _ _ _ _ h_z_1 g_k_6) (fun z_9 h_z_9 => (LkP.lts (K.1 _ _ _ _ h_z_9 g_h0) (fun z_11 h_z_11 => (LkP.ret h_z_11))))))))))))
theorem lkp_fn_X16_number__L5 {F : Nat} {sh : Nat → Nat × Nat} {n : Nat} {x0 : Int32} {x1 : Int32} {h0 : Nat} (K : Kp Q G) (g_h0 : G h0) : ∀ (f : Nat) (v1 : St) (v2 : Int64) (v3 : Int32), Q v1 → LkP Q (fn_X16_number__L5 F sh n x0 x1 h0 f v1 v2 v3) := by
  intro f
  induction f with
  | zero => intros; exact LkP.none
  | succ f_4 ih =>
    intro z_3 p_1 p_2 h_z_3
    exact (LkP.ite (LkP.ret h_z_3) (LkP.xg (LkP.xc (lkp_fn_X16_byteAt K h_z_3 g_h0) (fun z_6 r_7 h_z_6 => (LkP.ltv (fun v_10 => (ih _ _ _ h_z_6 )))))))
theorem lkp_fn_X16_number_ {F : Nat} {sh : Nat → Nat × Nat} {n : Nat} {z : St} {h0 : Nat} {x0 : Int32} {x1 : Int32} (K : Kp Q G) (h_z : Q z) (g_h0 : G h0) : LkP Q (fn_X16_number_ F sh n z h0 x0 x1) := by
  unfold fn_X16_number_
  exact (lkp_fn_X16_number__L5 K g_h0 _ _ _ _ h_z )
theorem lkp_fn_X16_typeEnd_L2 {F : Nat} {sh : Nat → Nat × Nat} {n : Nat} {h0 : Nat} (K : Kp Q G) (g_h0 : G h0) : ∀ (f : Nat) (v1 : St) (v2 : Int32), Q v1 → LkP Q (fn_X16_typeEnd_L2 F sh n h0 f v1 v2) := by
  intro f
  induction f with
  | zero => intros; exact LkP.none
  | succ f_3 ih =>
    intro z_2 p_1 h_z_2
    exact (LkP.xg (LkP.xc (lkp_fn_X16_byteAt K h_z_2 g_h0) (fun z_4 r_5 h_z_4 => (LkP.ite (LkP.xc (lkp_fn_X16_byteAt K h_z_4 g_h0) (fun z_9 r_10 h_z_9 => (LkP.ite (LkP.ret h_z_9) (LkP.ret h_z_9)))) (ih _ _ h_z_4 )))))
theorem lkp_fn_X16_typeEnd {F : Nat} {sh : Nat → Nat × Nat} {n : Nat} {z : St} {h0 : Nat} {x0 : Int32} (K : Kp Q G) (h_z : Q z) (g_h0 : G h0) : LkP Q (fn_X16_typeEnd F sh n z h0 x0) := by
  unfold fn_X16_typeEnd
  exact (lkp_fn_X16_typeEnd_L2 K g_h0 _ _ _ h_z )
theorem lkp_fn_X5_numberAt_L5 {F : Nat} {sh : Nat → Nat × Nat} {n : Nat} {x1 : Int32} {h0 : Nat} {x0 : Int32} (K : Kp Q G) (g_h0 : G h0) : ∀ (f : Nat) (v1 : St) (v2 : Int64) (v3 : Int32), Q v1 → LkP Q (fn_X5_numberAt_L5 F sh n x1 h0 x0 f v1 v2 v3) := by
  intro f
  induction f with
  | zero => intros; exact LkP.none
  | succ f_4 ih =>
    intro z_3 p_1 p_2 h_z_3
    exact (LkP.ite (LkP.ret h_z_3) (LkP.xg (LkP.xc (lkp_fn_X5_at K h_z_3 g_h0) (fun z_6 r_7 h_z_6 => (LkP.ltv (fun v_10 => (ih _ _ _ h_z_6 )))))))
theorem lkp_fn_X5_numberAt {F : Nat} {sh : Nat → Nat × Nat} {n : Nat} {z : St} {h0 : Nat} {x0 : Int32} {x1 : Int32} (K : Kp Q G) (h_z : Q z) (g_h0 : G h0) : LkP Q (fn_X5_numberAt F sh n z h0 x0 x1) := by
  unfold fn_X5_numberAt
  exact (lkp_fn_X5_numberAt_L5 K g_h0 _ _ _ _ h_z )
theorem lkp_fn_X16_flags {F : Nat} {sh : Nat → Nat × Nat} {n : Nat} {z : St} {h0 : Nat} {x0 : Int32} (K : Kp Q G) (h_z : Q z) (g_h0 : G h0) : LkP Q (fn_X16_flags F sh n z h0 x0) := by
  unfold fn_X16_flags
  exact (LkP.xg (LkP.ite (LkP.xl (fun k_3 q => have g_k_3 := K.2.2.2.2.2 _ _ _ _ h_z g_h0 q; (LkP.xg (LkP.xc (lkp_fn_X16_byteAt K h_z g_h0) (fun z_5 r_6 h_z_5 => (LkP.ret h_z_5)))))) (LkP.xl (fun k_8 q => have g_k_8 := K.2.2.2.2.2 _ _ _ _ h_z g_h0 q; (LkP.xg (LkP.xc (lkp_fn_X16_byteAt K h_z g_h0) (fun z_10 r_11 h_z_10 => (LkP.ret h_z_10))))))))
theorem lkp_fn_X18_push {F : Nat} {sh : Nat → Nat × Nat} {n : Nat} {z : St} {h0 : Nat} {x0 : Int32} {x1 : Int32} (K : Kp Q G) (h_z : Q z) (g_h0 : G h0) : LkP Q (fn_X18_push F sh n z h0 x0 x1) := by
  unfold fn_X18_push
  exact (LkP.xg (LkP.xc (lkp_fn_X18_goesOn K h_z g_h0) (fun z_1 r_2 h_z_1 => (LkP.ite (LkP.ret h_z_1) (LkP.xl (fun k_6 q => have g_k_6 := K.2.2.2.2.2 _ _ _ _ h_z_1 g_h0 q; (LkP.xg (LkP.lts (K.1 _ _ _ _ h_z_1 g_k_6) (fun z_9 h_z_9 => (LkP.xl (fun k_10 q => have g_k_10 := K.2.2.2.2.2 _ _ _ _ h_z_9 g_h0 q; (LkP.xg (LkP.lts (K.1 _ _ _ _ h_z_9 g_k_10) (fun z_13 h_z_13 => (LkP.lts (K.1 _ _ _ _ h_z_13 g_h0) (fun z_15 h_z_15 => (LkP.ret h_z_15)))))))))))))))))
theorem lkp_fn_X6_readNumber_B29 {F : Nat} {sh : Nat → Nat × Nat} {n : Nat} {h0 : Nat} {r_4 : Int32} {z_6 : St} (K : Kp Q G) (h_z_6 : Q z_6) (g_h0 : G h0) : LkP Q (fn_X6_readNumber_B29 F sh n h0 r_4 z_6) := by
  unfold fn_X6_readNumber_B29
  exact (LkP.ite (LkP.ret h_z_6) (LkP.ret h_z_6))
theorem lkp_fn_X6_readNumber_B23 {F : Nat} {sh : Nat → Nat × Nat} {n : Nat} {h0 : Nat} {v_2 : Int32} {r_4 : Int32} {z_8 : St} (K : Kp Q G) (h_z_8 : Q z_8) (g_h0 : G h0) : LkP Q (fn_X6_readNumber_B23 F sh n h0 v_2 r_4 z_8) := by
  unfold fn_X6_readNumber_B23
  exact (LkP.xc (lkp_fn_X6_fail K h_z_8 g_h0) (fun z_9 _ h_z_9 => (lkp_fn_X6_readNumber_B29 K h_z_9 g_h0)))
theorem lkp_fn_X6_readNumber {F : Nat} {sh : Nat → Nat × Nat} {n : Nat} {z : St} {h0 : Nat} {x0 : Int32} {x1 : Int32} (K : Kp Q G) (h_z : Q z) (g_h0 : G h0) : LkP Q (fn_X6_readNumber F sh n z h0 x0 x1) := by
  unfold fn_X6_readNumber
  exact (LkP.xg (LkP.ltv (fun v_2 => (LkP.xc (lkp_fn_X6_readByte K h_z g_h0) (fun z_3 r_4 h_z_3 => (LkP.ite (lkp_fn_X6_readNumber_B23 K h_z_3 g_h0) (LkP.ite (lkp_fn_X6_readNumber_B29 K h_z_3 g_h0) (lkp_fn_X6_readNumber_B23 K h_z_3 g_h0))))))))
theorem lkp_fn_X16_over {F : Nat} {sh : Nat → Nat × Nat} {n : Nat} {z : St} {h0 : Nat} {x0 : Int32} (K : Kp Q G) (h_z : Q z) (g_h0 : G h0) : LkP Q (fn_X16_over F sh n z h0 x0) := by
  unfold fn_X16_over
  exact (LkP.xg (LkP.ltv (fun v_2 => (LkP.ite (LkP.lts (K.1 _ _ _ _ h_z g_h0) (fun z_5 h_z_5 => (LkP.ret h_z_5))) (LkP.xc (lkp_fn_X16_fail K h_z g_h0) (fun z_6 _ h_z_6 => (LkP.ret h_z_6)))))))
theorem lkp_fn_X16_lookOwn {F : Nat} {sh : Nat → Nat × Nat} {n : Nat} {z : St} {h0 : Nat} {x0 : Int32} (K : Kp Q G) (h_z : Q z) (g_h0 : G h0) : LkP Q (fn_X16_lookOwn F sh n z h0 x0) := by
  unfold fn_X16_lookOwn
  exact (LkP.xg (LkP.xc (lkp_fn_X16_byteAt K h_z g_h0) (fun z_1 r_2 h_z_1 => (LkP.ite (LkP.xc (lkp_fn_X16_byteAt K h_z_1 g_h0) (fun z_6 r_7 h_z_6 => (LkP.ite (LkP.ret h_z_6) (LkP.xc (lkp_fn_X16_fail K h_z_6 g_h0) (fun z_10 _ h_z_10 => (LkP.ret h_z_10)))))) (LkP.xc (lkp_fn_X16_fail K h_z_1 g_h0) (fun z_12 _ h_z_12 => (LkP.ret h_z_12)))))))
theorem lkp_fn_X18_account {F : Nat} {sh : Nat → Nat × Nat} {n : Nat} {z : St} {h0 : Nat} {x0 : Int64} {x1 : Int32} (K : Kp Q G) (h_z : Q z) (g_h0 : G h0) : LkP Q (fn_X18_account F sh n z h0 x0 x1) := by
  unfold fn_X18_account
  exact (LkP.xg (LkP.xc (lkp_fn_X18_findAccount K h_z g_h0) (fun z_1 r_2 h_z_1 => (LkP.ite (LkP.ite (LkP.xl (fun k_10 q => have g_k_10 := K.2.2.2.2.2 _ _ _ _ h_z_1 g_h0 q; (LkP.xg (LkP.ret h_z_1)))) (LkP.ite (LkP.xl (fun k_8 q => have g_k_8 := K.2.2.2.2.2 _ _ _ _ h_z_1 g_h0 q; (LkP.xg (LkP.ret h_z_1)))) (LkP.ret h_z_1))) (LkP.ret h_z_1)))))
theorem lkp_fn_X18_places {F : Nat} {sh : Nat → Nat × Nat} {n : Nat} {z : St} {h0 : Nat} {x0 : Int32} (K : Kp Q G) (h_z : Q z) (g_h0 : G h0) : LkP Q (fn_X18_places F sh n z h0 x0) := by
  unfold fn_X18_places
  exact (LkP.ite (LkP.xg (LkP.xc (lkp_fn_X18_placeCount K h_z g_h0) (fun z_8 r_9 h_z_8 => (LkP.ret h_z_8)))) (LkP.ite (LkP.xg (LkP.ret h_z)) (LkP.ite (LkP.xg (LkP.ret h_z)) (LkP.ite (LkP.xg (LkP.ret h_z)) (LkP.ret h_z)))))
theorem lkp_fn_X10_compare {F : Nat} {sh : Nat → Nat × Nat} {n : Nat} {z : St} {x0 : Int64} {x1 : Int64} {x2 : Int64} {x3 : Int64} (K : Kp Q G) (h_z : Q z) : LkP Q (fn_X10_compare F sh n z x0 x1 x2 x3) := by
  unfold fn_X10_compare
  exact (LkP.ite (LkP.ite (LkP.ret h_z) (LkP.xc (lkp_fn_X10_below K h_z) (fun z_3 r_4 h_z_3 => (LkP.ite (LkP.ret h_z_3) (LkP.ret h_z_3))))) (LkP.xc (lkp_fn_X10_below K h_z) (fun z_7 r_8 h_z_7 => (LkP.ite (LkP.ret h_z_7) (LkP.ret h_z_7)))))
theorem lkp_fn_X7_charge {F : Nat} {sh : Nat → Nat × Nat} {n : Nat} {z : St} {h0 : Nat} {x0 : Nat} (K : Kp Q G) (h_z : Q z) (g_h0 : G h0) (g_x0 : G x0) : LkP Q (fn_X7_charge F sh n z h0 x0) := by
  unfold fn_X7_charge
  exact (LkP.xg (LkP.xg (LkP.xc (lkp_fn_X7_findAccount K h_z g_h0) (fun z_2 r_3 h_z_2 => (LkP.ite (LkP.ret h_z_2) (LkP.xl (fun k_7 q => have g_k_7 := K.2.2.2.2.2 _ _ _ _ h_z_2 g_h0 q; (LkP.xg (LkP.xg (LkP.lts (K.2.1 _ _ _ _ h_z_2 g_k_7) (fun z_11 h_z_11 => (LkP.xl (fun k_12 q => have g_k_12 := K.2.2.2.2.2 _ _ _ _ h_z_11 g_h0 q; (LkP.xg (LkP.xg (LkP.lts (K.2.1 _ _ _ _ h_z_11 g_k_12) (fun z_16 h_z_16 => (LkP.ret h_z_16))))))))))))))))))
theorem lkp_fn_X4_pay {F : Nat} {sh : Nat → Nat × Nat} {n : Nat} {z : St} {h0 : Nat} {x0 : Int32} (K : Kp Q G) (h_z : Q z) (g_h0 : G h0) : LkP Q (fn_X4_pay F sh n z h0 x0) := by
  unfold fn_X4_pay
  exact (LkP.xg (LkP.xl (fun k_2 q => have g_k_2 := K.2.2.2.2.2 _ _ _ _ h_z g_h0 q; (LkP.xg (LkP.ite (LkP.lts (K.1 _ _ _ _ h_z g_h0) (fun z_6 h_z_6 => (LkP.ret h_z_6))) (LkP.xl (fun k_7 q => have g_k_7 := K.2.2.2.2.2 _ _ _ _ h_z g_h0 q; (LkP.xg (LkP.lts (K.1 _ _ _ _ h_z g_h0) (fun z_10 h_z_10 => (LkP.xc (lkp_fn_X4_end K h_z_10 g_h0) (fun z_11 _ h_z_11 => (LkP.ret h_z_11)))))))))))))
theorem lkp_fn_X9_parting {F : Nat} {sh : Nat → Nat × Nat} {n : Nat} {z : St} {h0 : Nat} {x0 : Int32} (K : Kp Q G) (h_z : Q z) (g_h0 : G h0) : LkP Q (fn_X9_parting F sh n z h0 x0) := by
  unfold fn_X9_parting
  exact (LkP.ite (LkP.ret h_z) (LkP.xg (LkP.ite (LkP.xl (fun k_4 q => have g_k_4 := K.2.2.2.2.2 _ _ _ _ h_z g_h0 q; (LkP.xg (LkP.xl (fun k_6 q => have g_k_6 := K.2.2.2.2.2 _ _ _ _ h_z g_h0 q; (LkP.xg (LkP.xc (lkp_fn_X9_firstDifference K h_z g_h0) (fun z_8 r_9 h_z_8 => (LkP.ltv (fun v_11 => (LkP.ret h_z_8))))))))))) (LkP.ret h_z))))
theorem lkp_fn_X11_account {F : Nat} {sh : Nat → Nat × Nat} {n : Nat} {z : St} {h0 : Nat} {x0 : Int64} {x1 : Int32} (K : Kp Q G) (h_z : Q z) (g_h0 : G h0) : LkP Q (fn_X11_account F sh n z h0 x0 x1) := by
  unfold fn_X11_account
  exact (LkP.xg (LkP.xl (fun k_2 q => have g_k_2 := K.2.2.2.2.2 _ _ _ _ h_z g_h0 q; (LkP.xg (LkP.xc (lkp_fn_X7_findAccount K h_z g_k_2) (fun z_3 r_4 h_z_3 => (LkP.ite (LkP.ite (LkP.xl (fun k_14 q => have g_k_14 := K.2.2.2.2.2 _ _ _ _ h_z_3 g_h0 q; (LkP.xg (LkP.xl (fun k_16 q => have g_k_16 := K.2.2.2.2.2 _ _ _ _ h_z_3 g_k_14 q; (LkP.xg (LkP.ret h_z_3))))))) (LkP.ite (LkP.xl (fun k_10 q => have g_k_10 := K.2.2.2.2.2 _ _ _ _ h_z_3 g_h0 q; (LkP.xg (LkP.xl (fun k_12 q => have g_k_12 := K.2.2.2.2.2 _ _ _ _ h_z_3 g_k_10 q; (LkP.xg (LkP.ret h_z_3))))))) (LkP.ret h_z_3))) (LkP.ret h_z_3))))))))
theorem lkp_fn_X7_settle {F : Nat} {sh : Nat → Nat × Nat} {n : Nat} {z : St} {h0 : Nat} {x0 : Nat} (K : Kp Q G) (h_z : Q z) (g_h0 : G h0) (g_x0 : G x0) : LkP Q (fn_X7_settle F sh n z h0 x0) := by
  unfold fn_X7_settle
  exact (LkP.xg (LkP.xg (LkP.xc (lkp_fn_X7_findAccount K h_z g_h0) (fun z_2 r_3 h_z_2 => (LkP.ite (LkP.ret h_z_2) (LkP.xl (fun k_7 q => have g_k_7 := K.2.2.2.2.2 _ _ _ _ h_z_2 g_h0 q; (LkP.xg (LkP.xg (LkP.lts (K.2.1 _ _ _ _ h_z_2 g_k_7) (fun z_11 h_z_11 => (LkP.lts (K.2.1 _ _ _ _ h_z_11 g_h0) (fun z_13 h_z_13 => (LkP.ret h_z_13))))))))))))))
theorem lkp_fn_X14_isBehind_L2 {F : Nat} {sh : Nat → Nat × Nat} {n : Nat} {h0 : Nat} {x0 : Int32} {x1 : Nat} (K : Kp Q G) (g_h0 : G h0) (g_x1 : G x1) : ∀ (f : Nat) (v1 : St) (v2 : Int32), Q v1 → LkP Q (fn_X14_isBehind_L2 F sh n h0 x0 x1 f v1 v2) := by
  intro f
  induction f with
  | zero => intros; exact LkP.none
  | succ f_3 ih =>
    intro z_2 p_1 h_z_2
    exact (LkP.ite (LkP.ret h_z_2) (LkP.xg (LkP.xl (fun k_6 q => have g_k_6 := K.2.2.2.2.2 _ _ _ _ h_z_2 g_h0 q; (LkP.xg (LkP.xg (LkP.xc (lkp_fn_X14_order K h_z_2) (fun z_9 r_10 h_z_9 => (LkP.ite (ih _ _ h_z_9 ) (LkP.ite (LkP.ret h_z_9) (LkP.ret h_z_9)))))))))))
theorem lkp_fn_X14_isBehind {F : Nat} {sh : Nat → Nat × Nat} {n : Nat} {z : St} {h0 : Nat} {x0 : Int32} {x1 : Nat} (K : Kp Q G) (h_z : Q z) (g_h0 : G h0) (g_x1 : G x1) : LkP Q (fn_X14_isBehind F sh n z h0 x0 x1) := by
  unfold fn_X14_isBehind
  exact (lkp_fn_X14_isBehind_L2 K g_h0 g_x1 _ _ _ h_z )
theorem lkp_fn_X18_spend {F : Nat} {sh : Nat → Nat × Nat} {n : Nat} {z : St} {h0 : Nat} {x0 : Int32} (K : Kp Q G) (h_z : Q z) (g_h0 : G h0) : LkP Q (fn_X18_spend F sh n z h0 x0) := by
  unfold fn_X18_spend
  exact (LkP.xg (LkP.xc (lkp_fn_X18_goesOn K h_z g_h0) (fun z_1 r_2 h_z_1 => (LkP.ite (LkP.ret h_z_1) (LkP.ite (LkP.lts (K.1 _ _ _ _ h_z_1 g_h0) (fun z_8 h_z_8 => (LkP.ret h_z_8))) (LkP.lts (K.1 _ _ _ _ h_z_1 g_h0) (fun z_10 h_z_10 => (LkP.xc (lkp_fn_X18_end K h_z_10 g_h0) (fun z_11 _ h_z_11 => (LkP.ret h_z_11))))))))))
theorem lkp_fn_X5_abilities_B37 {F : Nat} {sh : Nat → Nat × Nat} {n : Nat} {r_2 : Int32} {z_9 : St} {p_8 : Int32} (K : Kp Q G) (h_z_9 : Q z_9) : LkP Q (fn_X5_abilities_B37 F sh n r_2 z_9 p_8) := by
  unfold fn_X5_abilities_B37
  exact (LkP.ite (LkP.ret h_z_9) (LkP.ret h_z_9))
theorem lkp_fn_X5_abilities {F : Nat} {sh : Nat → Nat × Nat} {n : Nat} {z : St} {h0 : Nat} {x0 : Int64} (K : Kp Q G) (h_z : Q z) (g_h0 : G h0) : LkP Q (fn_X5_abilities F sh n z h0 x0) := by
  unfold fn_X5_abilities
  exact (LkP.xc (lkp_fn_X5_head K h_z) (fun z_1 r_2 h_z_1 => (LkP.ite (LkP.xc (lkp_fn_X5_endsInStructure K h_z_1) (fun z_5 r_6 h_z_5 => (LkP.ite (lkp_fn_X5_abilities_B37 K h_z_5) (LkP.xg (LkP.xc (lkp_fn_X5_structureColumn K h_z_5 g_h0) (fun z_12 r_13 h_z_12 => (lkp_fn_X5_abilities_B37 K h_z_12))))))) (LkP.ret h_z_1))))
theorem lkp_fn_X5_depthOf_L30 {F : Nat} {sh : Nat → Nat × Nat} {n : Nat} {x0 : Int64} (K : Kp Q G)  : ∀ (f : Nat) (v1 : St) (v2 : Int32) (v3 : Int32), Q v1 → LkP Q (fn_X5_depthOf_L30 F sh n x0 f v1 v2 v3) := by
  intro f
  induction f with
  | zero => intros; exact LkP.none
  | succ f_12 ih =>
    intro z_11 p_9 p_10 h_z_11
    exact (LkP.ite (LkP.ret h_z_11) (LkP.ite (ih _ _ _ h_z_11 ) (LkP.ret h_z_11)))
theorem lkp_fn_X5_depthOf_B23 {F : Nat} {sh : Nat → Nat × Nat} {n : Nat} {x0 : Int64} {z_5 : St} {p_4 : Int32} (K : Kp Q G) (h_z_5 : Q z_5) : LkP Q (fn_X5_depthOf_B23 F sh n x0 z_5 p_4) := by
  unfold fn_X5_depthOf_B23
  exact (LkP.xc (lkp_fn_X5_headShift K h_z_5) (fun z_6 r_7 h_z_6 => (lkp_fn_X5_depthOf_L30 K  _ _ _ _ h_z_6 )))
theorem lkp_fn_X5_depthOf {F : Nat} {sh : Nat → Nat × Nat} {n : Nat} {z : St} {h0 : Nat} {x0 : Int64} (K : Kp Q G) (h_z : Q z) (g_h0 : G h0) : LkP Q (fn_X5_depthOf F sh n z h0 x0) := by
  unfold fn_X5_depthOf
  exact (LkP.xc (lkp_fn_X5_endsInStructure K h_z) (fun z_1 r_2 h_z_1 => (LkP.ite (lkp_fn_X5_depthOf_B23 K h_z_1) (LkP.xg (LkP.xc (lkp_fn_X5_structureColumn K h_z_1 g_h0) (fun z_16 r_17 h_z_16 => (lkp_fn_X5_depthOf_B23 K h_z_16)))))))
theorem lkp_fn_X17_result_L3 {F : Nat} {sh : Nat → Nat × Nat} {n : Nat} {h0 : Nat} {x0 : Int32} (K : Kp Q G) (g_h0 : G h0) : ∀ (f : Nat) (v1 : St) (v2 : Int32), Q v1 → LkP Q (fn_X17_result_L3 F sh n h0 x0 f v1 v2) := by
  intro f
  induction f with
  | zero => intros; exact LkP.none
  | succ f_3 ih =>
    intro z_2 p_1 h_z_2
    exact (LkP.ite (LkP.xg (LkP.xl (fun k_6 q => have g_k_6 := K.2.2.2.2.2 _ _ _ _ h_z_2 g_h0 q; (LkP.xc (lkp_fn_X17_four K h_z_2 g_k_6) (fun z_7 r_8 h_z_7 => (LkP.lts (K.2.1 _ _ _ _ h_z_7 g_h0) (fun z_11 h_z_11 => (LkP.xl (fun k_12 q => have g_k_12 := K.2.2.2.2.2 _ _ _ _ h_z_11 g_h0 q; (LkP.xc (lkp_fn_X17_four K h_z_11 g_k_12) (fun z_13 r_14 h_z_13 => (LkP.lts (K.2.1 _ _ _ _ h_z_13 g_h0) (fun z_17 h_z_17 => (LkP.xc (lkp_fn_X17_isOf K h_z_17) (fun z_18 r_19 h_z_18 => (LkP.xg (LkP.ret h_z_18))))))))))))))))) (LkP.xg (LkP.xl (fun k_23 q => have g_k_23 := K.2.2.2.2.2 _ _ _ _ h_z_2 g_h0 q; (LkP.xg (LkP.ite (ih _ _ h_z_2 ) (LkP.ret h_z_2)))))))
theorem lkp_fn_X17_result {F : Nat} {sh : Nat → Nat × Nat} {n : Nat} {z : St} {h0 : Nat} {x0 : Int32} (K : Kp Q G) (h_z : Q z) (g_h0 : G h0) : LkP Q (fn_X17_result F sh n z h0 x0) := by
  unfold fn_X17_result
  exact (lkp_fn_X17_result_L3 K g_h0 _ _ _ h_z )
theorem lkp_fn_X3_putReference {F : Nat} {sh : Nat → Nat × Nat} {n : Nat} {z : St} {h0 : Nat} {x0 : Int64} {x1 : Int64} {x2 : Int32} (K : Kp Q G) (h_z : Q z) (g_h0 : G h0) : LkP Q (fn_X3_putReference F sh n z h0 x0 x1 x2) := by
  unfold fn_X3_putReference
  exact (LkP.xg (LkP.ite (LkP.xl (fun k_3 q => have g_k_3 := K.2.2.2.2.2 _ _ _ _ h_z g_h0 q; (LkP.xg (LkP.lts (K.2.1 _ _ _ _ h_z g_k_3) (fun z_6 h_z_6 => (LkP.xl (fun k_7 q => have g_k_7 := K.2.2.2.2.2 _ _ _ _ h_z_6 g_h0 q; (LkP.xg (LkP.lts (K.2.1 _ _ _ _ h_z_6 g_k_7) (fun z_10 h_z_10 => (LkP.xl (fun k_11 q => have g_k_11 := K.2.2.2.2.2 _ _ _ _ h_z_10 g_h0 q; (LkP.xg (LkP.lts (K.1 _ _ _ _ h_z_10 g_k_11) (fun z_14 h_z_14 => (LkP.lts (K.1 _ _ _ _ h_z_14 g_h0) (fun z_16 h_z_16 => (LkP.ret h_z_16)))))))))))))))))) (LkP.xc (lkp_fn_X3_fail K h_z g_h0) (fun z_17 _ h_z_17 => (LkP.ret h_z_17)))))
theorem lkp_fn_X3_take {F : Nat} {sh : Nat → Nat × Nat} {n : Nat} {z : St} {h0 : Nat} (K : Kp Q G) (h_z : Q z) (g_h0 : G h0) : LkP Q (fn_X3_take F sh n z h0) := by
  unfold fn_X3_take
  exact (LkP.xg (LkP.ite (LkP.xc (lkp_fn_X3_fail K h_z g_h0) (fun z_16 _ h_z_16 => (LkP.ret h_z_16))) (LkP.lts (K.1 _ _ _ _ h_z g_h0) (fun z_4 h_z_4 => (LkP.xl (fun k_5 q => have g_k_5 := K.2.2.2.2.2 _ _ _ _ h_z_4 g_h0 q; (LkP.xg (LkP.lts (K.2.1 _ _ _ _ h_z_4 g_h0) (fun z_8 h_z_8 => (LkP.xl (fun k_9 q => have g_k_9 := K.2.2.2.2.2 _ _ _ _ h_z_8 g_h0 q; (LkP.xg (LkP.xg (LkP.lts (K.1 _ _ _ _ h_z_8 g_h0) (fun z_13 h_z_13 => (LkP.xl (fun k_14 q => have g_k_14 := K.2.2.2.2.2 _ _ _ _ h_z_13 g_h0 q; (LkP.xg (LkP.ret h_z_13)))))))))))))))))))
theorem lkp_fn_X11_argument {F : Nat} {sh : Nat → Nat × Nat} {n : Nat} {z : St} {h0 : Nat} {x0 : Int32} {x1 : Int64} {x2 : Int64} (K : Kp Q G) (h_z : Q z) (g_h0 : G h0) : LkP Q (fn_X11_argument F sh n z h0 x0 x1 x2) := by
  unfold fn_X11_argument
  exact (LkP.xc (lkp_fn_X11_isArgument K h_z) (fun z_1 r_2 h_z_1 => (LkP.ite (LkP.ret h_z_1) (LkP.xg (LkP.ite (LkP.ret h_z_1) (LkP.xl (fun k_7 q => have g_k_7 := K.2.2.2.2.2 _ _ _ _ h_z_1 g_h0 q; (LkP.xg (LkP.xl (fun k_9 q => have g_k_9 := K.2.2.2.2.2 _ _ _ _ h_z_1 g_k_7 q; (LkP.xg (LkP.ite (LkP.ret h_z_1) (LkP.xl (fun k_12 q => have g_k_12 := K.2.2.2.2.2 _ _ _ _ h_z_1 g_h0 q; (LkP.xg (LkP.xl (fun k_14 q => have g_k_14 := K.2.2.2.2.2 _ _ _ _ h_z_1 g_k_12 q; (LkP.xg (LkP.xc (lkp_fn_X8_addArgument K h_z_1 g_k_14) (fun z_15 r_16 h_z_15 => (LkP.ret h_z_15)))))))))))))))))))))
theorem lkp_fn_X9_isBelow_L2 {F : Nat} {sh : Nat → Nat × Nat} {n : Nat} {h0 : Nat} {x0 : Int32} {x1 : Int32} (K : Kp Q G) (g_h0 : G h0) : ∀ (f : Nat) (v1 : St) (v2 : Int32), Q v1 → LkP Q (fn_X9_isBelow_L2 F sh n h0 x0 x1 f v1 v2) := by
  intro f
  induction f with
  | zero => intros; exact LkP.none
  | succ f_3 ih =>
    intro z_2 p_1 h_z_2
    exact (LkP.ite (LkP.ret h_z_2) (LkP.xg (LkP.xl (fun k_6 q => have g_k_6 := K.2.2.2.2.2 _ _ _ _ h_z_2 g_h0 q; (LkP.xg (LkP.ltv (fun v_8 => (LkP.xl (fun k_9 q => have g_k_9 := K.2.2.2.2.2 _ _ _ _ h_z_2 g_h0 q; (LkP.xg (LkP.ltv (fun v_11 => (LkP.ite (ih _ _ h_z_2 ) (LkP.xc (lkp_fn_X10_below K h_z_2) (fun z_13 r_14 h_z_13 => (LkP.xg (LkP.ret h_z_13)))))))))))))))))
theorem lkp_fn_X9_isBelow {F : Nat} {sh : Nat → Nat × Nat} {n : Nat} {z : St} {h0 : Nat} {x0 : Int32} {x1 : Int32} (K : Kp Q G) (h_z : Q z) (g_h0 : G h0) : LkP Q (fn_X9_isBelow F sh n z h0 x0 x1) := by
  unfold fn_X9_isBelow
  exact (lkp_fn_X9_isBelow_L2 K g_h0 _ _ _ h_z )
theorem lkp_fn_X15_copy_L30 {F : Nat} {sh : Nat → Nat × Nat} {n : Nat} {r_9 : Int32} {rec : St → Nat → Int32 → Option (St × Int32)} {h0 : Nat} (K : Kp Q G) (g_h0 : G h0) (hko_rec : ∀ (w0 : St) (w1 : Nat) (w2 : Int32), Q w0 → G w1 → LkP Q (rec w0 w1 w2)) : ∀ (f : Nat) (v1 : St) (v2 : Int32), Q v1 → LkP Q (fn_X15_copy_L30 F sh n r_9 rec h0 f v1 v2) := by
  intro f
  induction f with
  | zero => intros; exact LkP.none
  | succ f_16 ih =>
    intro z_15 p_14 h_z_15
    exact (LkP.ite (LkP.ret h_z_15) (LkP.xc (hko_rec _ _ _ h_z_15 g_h0) (fun z_18 r_19 h_z_18 => (LkP.xc (lkp_fn_X15_add K h_z_18 g_h0) (fun z_21 _ h_z_21 => (LkP.xl (fun k_23 q => have g_k_23 := K.2.2.2.2.2 _ _ _ _ h_z_21 g_h0 q; (LkP.xg (LkP.ltv (fun v_25 => (ih _ _ h_z_21 )))))))))))
theorem lkp_fn_X15_copy {F : Nat} {sh : Nat → Nat × Nat} {n : Nat} (K : Kp Q G)  : ∀ (f : Nat) (v1 : St) (v2 : Nat) (v3 : Int32), Q v1 → G v2 → LkP Q (fn_X15_copy F sh n f v1 v2 v3) := by
  intro f
  induction f with
  | zero => intros; exact LkP.none
  | succ d ih =>
    intro z h0 x0 h_z g_h0
    exact (LkP.xg (LkP.xl (fun k_2 q => have g_k_2 := K.2.2.2.2.2 _ _ _ _ h_z g_h0 q; (LkP.xg (LkP.xl (fun k_4 q => have g_k_4 := K.2.2.2.2.2 _ _ _ _ h_z g_h0 q; (LkP.xg (LkP.xl (fun k_6 q => have g_k_6 := K.2.2.2.2.2 _ _ _ _ h_z g_h0 q; (LkP.xg (LkP.xc (lkp_fn_X15_make K h_z g_h0) (fun z_8 r_9 h_z_8 => (LkP.xl (fun k_11 q => have g_k_11 := K.2.2.2.2.2 _ _ _ _ h_z_8 g_h0 q; (LkP.xg (LkP.ltv (fun v_13 => (lkp_fn_X15_copy_L30 K g_h0 (fun w0 w1 w2 hw gw1 => ih w0 w1 w2 hw gw1) _ _ _ h_z_8 ))))))))))))))))))
theorem lkp_fn_X1_swap {F : Nat} {sh : Nat → Nat × Nat} {n : Nat} {z : St} {h0 : Nat} {x0 : Int32} {x1 : Int32} (K : Kp Q G) (h_z : Q z) (g_h0 : G h0) : LkP Q (fn_X1_swap F sh n z h0 x0 x1) := by
  unfold fn_X1_swap
  exact (LkP.ite (LkP.ret h_z) (LkP.xg (LkP.xl (fun k_3 q => have g_k_3 := K.2.2.2.2.2 _ _ _ _ h_z g_h0 q; (LkP.xg (LkP.ltv (fun v_5 => (LkP.xl (fun k_6 q => have g_k_6 := K.2.2.2.2.2 _ _ _ _ h_z g_h0 q; (LkP.xg (LkP.ltv (fun v_8 => (LkP.xl (fun k_9 q => have g_k_9 := K.2.2.2.2.2 _ _ _ _ h_z g_h0 q; (LkP.xg (LkP.ltv (fun v_11 => (LkP.xc (lkp_fn_X1_assign K h_z g_h0) (fun z_12 _ h_z_12 => (LkP.xl (fun k_14 q => have g_k_14 := K.2.2.2.2.2 _ _ _ _ h_z_12 g_h0 q; (LkP.xg (LkP.lts (K.1 _ _ _ _ h_z_12 g_k_14) (fun z_17 h_z_17 => (LkP.xl (fun k_18 q => have g_k_18 := K.2.2.2.2.2 _ _ _ _ h_z_17 g_h0 q; (LkP.xg (LkP.lts (K.2.1 _ _ _ _ h_z_17 g_k_18) (fun z_21 h_z_21 => (LkP.xl (fun k_22 q => have g_k_22 := K.2.2.2.2.2 _ _ _ _ h_z_21 g_h0 q; (LkP.xg (LkP.lts (K.2.1 _ _ _ _ h_z_21 g_k_22) (fun z_25 h_z_25 => (LkP.ret h_z_25)))))))))))))))))))))))))))))))))))
theorem lkp_fn_X7_slotFor {F : Nat} {sh : Nat → Nat × Nat} {n : Nat} {z : St} {h0 : Nat} {x0 : Int64} {x1 : Int32} {x2 : Int32} (K : Kp Q G) (h_z : Q z) (g_h0 : G h0) : LkP Q (fn_X7_slotFor F sh n z h0 x0 x1 x2) := by
  unfold fn_X7_slotFor
  exact (LkP.xg (LkP.xc (lkp_fn_X7_findResource K h_z g_h0) (fun z_1 r_2 h_z_1 => (LkP.ite (LkP.xc (lkp_fn_X7_freeSlot K h_z_1 g_h0) (fun z_6 r_7 h_z_6 => (LkP.ite (LkP.ret h_z_6) (LkP.xl (fun k_10 q => have g_k_10 := K.2.2.2.2.2 _ _ _ _ h_z_6 g_h0 q; (LkP.xg (LkP.lts (K.2.1 _ _ _ _ h_z_6 g_k_10) (fun z_13 h_z_13 => (LkP.xl (fun k_14 q => have g_k_14 := K.2.2.2.2.2 _ _ _ _ h_z_13 g_h0 q; (LkP.xg (LkP.lts (K.1 _ _ _ _ h_z_13 g_k_14) (fun z_17 h_z_17 => (LkP.xl (fun k_18 q => have g_k_18 := K.2.2.2.2.2 _ _ _ _ h_z_17 g_h0 q; (LkP.xg (LkP.lts (K.1 _ _ _ _ h_z_17 g_k_18) (fun z_21 h_z_21 => (LkP.lts (K.1 _ _ _ _ h_z_21 g_h0) (fun z_23 h_z_23 => (LkP.ret h_z_23))))))))))))))))))))) (LkP.ret h_z_1)))))
theorem lkp_fn_X13_take {F : Nat} {sh : Nat → Nat × Nat} {n : Nat} {z : St} {h0 : Nat} (K : Kp Q G) (h_z : Q z) (g_h0 : G h0) : LkP Q (fn_X13_take F sh n z h0) := by
  unfold fn_X13_take
  exact (LkP.xg (LkP.ite (LkP.ite (LkP.xc (lkp_fn_X13_fail K h_z g_h0) (fun z_19 _ h_z_19 => (LkP.ret h_z_19))) (LkP.lts (K.1 _ _ _ _ h_z g_h0) (fun z_5 h_z_5 => (LkP.xl (fun k_6 q => have g_k_6 := K.2.2.2.2.2 _ _ _ _ h_z_5 g_h0 q; (LkP.xg (LkP.lts (K.2.1 _ _ _ _ h_z_5 g_h0) (fun z_9 h_z_9 => (LkP.xl (fun k_10 q => have g_k_10 := K.2.2.2.2.2 _ _ _ _ h_z_9 g_h0 q; (LkP.xg (LkP.lts (K.2.1 _ _ _ _ h_z_9 g_h0) (fun z_13 h_z_13 => (LkP.xl (fun k_14 q => have g_k_14 := K.2.2.2.2.2 _ _ _ _ h_z_13 g_h0 q; (LkP.xg (LkP.xg (LkP.lts (K.1 _ _ _ _ h_z_13 g_h0) (fun z_18 h_z_18 => (LkP.ret h_z_18)))))))))))))))))))) (LkP.ret h_z)))
theorem lkp_fn_X9_leaveOutDoubles_B55 {F : Nat} {sh : Nat → Nat × Nat} {n : Nat} {p_2 : Int32} {ko4 : St → Int32 → Int32 → Option (St × Unit)} {z_10 : St} {p_9 : Int32} (K : Kp Q G) (h_z_10 : Q z_10) (hko_ko4 : ∀ (w0 : St) (w1 : Int32) (w2 : Int32), Q w0 → LkP Q (ko4 w0 w1 w2)) : LkP Q (fn_X9_leaveOutDoubles_B55 F sh n p_2 ko4 z_10 p_9) := by
  unfold fn_X9_leaveOutDoubles_B55
  exact (hko_ko4 _ _ _ h_z_10 )
theorem lkp_fn_X9_leaveOutDoubles_B40 {F : Nat} {sh : Nat → Nat × Nat} {n : Nat} {h0 : Nat} {p_2 : Int32} {p_1 : Int32} {ko4 : St → Int32 → Int32 → Option (St × Unit)} {z_11 : St} (K : Kp Q G) (h_z_11 : Q z_11) (g_h0 : G h0) (hko_ko4 : ∀ (w0 : St) (w1 : Int32) (w2 : Int32), Q w0 → LkP Q (ko4 w0 w1 w2)) : LkP Q (fn_X9_leaveOutDoubles_B40 F sh n h0 p_2 p_1 ko4 z_11) := by
  unfold fn_X9_leaveOutDoubles_B40
  exact (LkP.xl (fun k_12 q => have g_k_12 := K.2.2.2.2.2 _ _ _ _ h_z_11 g_h0 q; (LkP.xl (fun k_13 q => have g_k_13 := K.2.2.2.2.2 _ _ _ _ h_z_11 g_h0 q; (LkP.xg (LkP.xg (LkP.lts (K.1 _ _ _ _ h_z_11 g_k_12) (fun z_17 h_z_17 => (lkp_fn_X9_leaveOutDoubles_B55 K h_z_17 (fun z9 q1 q2 hk_z9 => (hko_ko4 _ _ _ hk_z9 )))))))))))
theorem lkp_fn_X9_leaveOutDoubles_L4 {F : Nat} {sh : Nat → Nat × Nat} {n : Nat} {h0 : Nat} (K : Kp Q G) (g_h0 : G h0) : ∀ (f : Nat) (v1 : St) (v2 : Int32) (v3 : Int32), Q v1 → LkP Q (fn_X9_leaveOutDoubles_L4 F sh n h0 f v1 v2 v3) := by
  intro f
  induction f with
  | zero => intros; exact LkP.none
  | succ f_4 ih =>
    intro z_3 p_1 p_2 h_z_3
    exact (LkP.xg (LkP.ite (LkP.lts (K.1 _ _ _ _ h_z_3 g_h0) (fun z_8 h_z_8 => (LkP.ret h_z_8))) (LkP.ite (lkp_fn_X9_leaveOutDoubles_B40 K h_z_3 g_h0 (fun z9 q1 q2 hk_z9 => (ih _ _ _ hk_z9 ))) (LkP.xl (fun k_19 q => have g_k_19 := K.2.2.2.2.2 _ _ _ _ h_z_3 g_h0 q; (LkP.xg (LkP.xl (fun k_21 q => have g_k_21 := K.2.2.2.2.2 _ _ _ _ h_z_3 g_h0 q; (LkP.xg (LkP.xc (lkp_fn_X9_firstDifference K h_z_3 g_h0) (fun z_23 r_24 h_z_23 => (LkP.ite (lkp_fn_X9_leaveOutDoubles_B55 K h_z_23 (fun z9 q1 q2 hk_z9 => (ih _ _ _ hk_z9 ))) (lkp_fn_X9_leaveOutDoubles_B40 K h_z_23 g_h0 (fun z9 q1 q2 hk_z9 => (ih _ _ _ hk_z9 )))))))))))))))
theorem lkp_fn_X9_leaveOutDoubles {F : Nat} {sh : Nat → Nat × Nat} {n : Nat} {z : St} {h0 : Nat} (K : Kp Q G) (h_z : Q z) (g_h0 : G h0) : LkP Q (fn_X9_leaveOutDoubles F sh n z h0) := by
  unfold fn_X9_leaveOutDoubles
  exact (lkp_fn_X9_leaveOutDoubles_L4 K g_h0 _ _ _ _ h_z )
theorem lkp_fn_X18_call {F : Nat} {sh : Nat → Nat × Nat} {n : Nat} {z : St} {h0 : Nat} {x0 : Int64} {x1 : Int64} {x2 : Int32} {x3 : Int32} {x4 : Int32} (K : Kp Q G) (h_z : Q z) (g_h0 : G h0) : LkP Q (fn_X18_call F sh n z h0 x0 x1 x2 x3 x4) := by
  unfold fn_X18_call
  exact (LkP.xc (lkp_fn_X18_isLimit K h_z) (fun z_1 r_2 h_z_1 => (LkP.ite (LkP.ret h_z_1) (LkP.ite (LkP.ret h_z_1) (LkP.ite (LkP.ret h_z_1) (LkP.ite (LkP.ret h_z_1) (LkP.ite (LkP.xg (LkP.ite (LkP.ret h_z_1) (LkP.xc (lkp_fn_X18_add K h_z_1 g_h0) (fun z_11 r_12 h_z_11 => (LkP.xl (fun k_14 q => have g_k_14 := K.2.2.2.2.2 _ _ _ _ h_z_11 g_h0 q; (LkP.xg (LkP.lts (K.1 _ _ _ _ h_z_11 g_k_14) (fun z_17 h_z_17 => (LkP.xl (fun k_18 q => have g_k_18 := K.2.2.2.2.2 _ _ _ _ h_z_17 g_h0 q; (LkP.xg (LkP.lts (K.1 _ _ _ _ h_z_17 g_k_18) (fun z_21 h_z_21 => (LkP.ret h_z_21))))))))))))))) (LkP.ret h_z_1))))))))
theorem lkp_fn_X0_put {F : Nat} {sh : Nat → Nat × Nat} {n : Nat} {z : St} {h0 : Nat} {x0 : Int32} (K : Kp Q G) (h_z : Q z) (g_h0 : G h0) : LkP Q (fn_X0_put F sh n z h0 x0) := by
  unfold fn_X0_put
  exact (LkP.xg (LkP.ltv (fun v_2 => (LkP.xl (fun k_3 q => have g_k_3 := K.2.2.2.2.2 _ _ _ _ h_z g_h0 q; (LkP.xl (fun k_4 q => have g_k_4 := K.2.2.2.2.2 _ _ _ _ h_z g_h0 q; (LkP.xg (LkP.xg (LkP.lts (K.1 _ _ _ _ h_z g_k_3) (fun z_8 h_z_8 => (LkP.lts (K.1 _ _ _ _ h_z_8 g_h0) (fun z_10 h_z_10 => (LkP.lts (K.2.1 _ _ _ _ h_z_10 g_h0) (fun z_12 h_z_12 => (LkP.ite (LkP.lts (K.1 _ _ _ _ h_z_12 g_h0) (fun z_15 h_z_15 => (LkP.xc (lkp_fn_X0_mix K h_z_15 g_h0) (fun z_16 _ h_z_16 => (LkP.ret h_z_16))))) (LkP.ret h_z_12)))))))))))))))))
theorem lkp_fn_X10_add_B64 {F : Nat} {sh : Nat → Nat × Nat} {n : Nat} {h0 : Nat} {v_9 : Int64} {v_2 : Int64} {z_14 : St} {p_13 : Int32} (K : Kp Q G) (h_z_14 : Q z_14) (g_h0 : G h0) : LkP Q (fn_X10_add_B64 F sh n h0 v_9 v_2 z_14 p_13) := by
  unfold fn_X10_add_B64
  exact (LkP.xg (LkP.lts (K.1 _ _ _ _ h_z_14 g_h0) (fun z_17 h_z_17 => (LkP.lts (K.2.1 _ _ _ _ h_z_17 g_h0) (fun z_19 h_z_19 => (LkP.lts (K.2.1 _ _ _ _ h_z_19 g_h0) (fun z_21 h_z_21 => (LkP.ret h_z_21))))))))
theorem lkp_fn_X10_add_B59 {F : Nat} {sh : Nat → Nat × Nat} {n : Nat} {h0 : Nat} {v_9 : Int64} {v_2 : Int64} {z_22 : St} (K : Kp Q G) (h_z_22 : Q z_22) (g_h0 : G h0) : LkP Q (fn_X10_add_B59 F sh n h0 v_9 v_2 z_22) := by
  unfold fn_X10_add_B59
  exact (lkp_fn_X10_add_B64 K h_z_22 g_h0)
theorem lkp_fn_X10_add_B22 {F : Nat} {sh : Nat → Nat × Nat} {n : Nat} {h0 : Nat} {x0 : Int64} {v_2 : Int64} {z_7 : St} {p_6 : Int64} (K : Kp Q G) (h_z_7 : Q z_7) (g_h0 : G h0) : LkP Q (fn_X10_add_B22 F sh n h0 x0 v_2 z_7 p_6) := by
  unfold fn_X10_add_B22
  exact (LkP.ltv (fun v_8 => (LkP.ltv (fun v_9 => (LkP.xc (lkp_fn_X10_below K h_z_7) (fun z_10 r_11 h_z_10 => (LkP.ite (LkP.xc (lkp_fn_X10_below K h_z_10) (fun z_24 r_25 h_z_24 => (LkP.ite (lkp_fn_X10_add_B64 K h_z_24 g_h0) (lkp_fn_X10_add_B59 K h_z_24 g_h0)))) (lkp_fn_X10_add_B59 K h_z_10 g_h0))))))))
theorem lkp_fn_X10_add {F : Nat} {sh : Nat → Nat × Nat} {n : Nat} {z : St} {h0 : Nat} {x0 : Int64} {x1 : Int64} (K : Kp Q G) (h_z : Q z) (g_h0 : G h0) : LkP Q (fn_X10_add F sh n z h0 x0 x1) := by
  unfold fn_X10_add
  exact (LkP.xg (LkP.ltv (fun v_2 => (LkP.xc (lkp_fn_X10_below K h_z) (fun z_3 r_4 h_z_3 => (LkP.ite (lkp_fn_X10_add_B22 K h_z_3 g_h0) (lkp_fn_X10_add_B22 K h_z_3 g_h0)))))))
theorem lkp_fn_X18_loadOne_L43 {F : Nat} {sh : Nat → Nat × Nat} {n : Nat} {h0 : Nat} {v_2 : Int32} {r_13 : Int32} {rec : St → Nat → Option (St × Int32)} (K : Kp Q G) (g_h0 : G h0) (hko_rec : ∀ (w0 : St) (w1 : Nat), Q w0 → G w1 → LkP Q (rec w0 w1)) : ∀ (f : Nat) (v1 : St) (v2 : Int32), Q v1 → LkP Q (fn_X18_loadOne_L43 F sh n h0 v_2 r_13 rec f v1 v2) := by
  intro f
  induction f with
  | zero => intros; exact LkP.none
  | succ f_18 ih =>
    intro z_17 p_16 h_z_17
    exact (LkP.xl (fun k_19 q => have g_k_19 := K.2.2.2.2.2 _ _ _ _ h_z_17 g_h0 q; (LkP.xg (LkP.ite (LkP.ret h_z_17) (LkP.xl (fun k_22 q => have g_k_22 := K.2.2.2.2.2 _ _ _ _ h_z_17 g_h0 q; (LkP.xc (hko_rec _ _ h_z_17 g_h0) (fun z_23 r_24 h_z_23 => (LkP.xg (LkP.xc (lkp_fn_X15_add K h_z_23 g_k_22) (fun z_26 _ h_z_26 => (ih _ _ h_z_26 ))))))))))))
theorem lkp_fn_X18_loadOne {F : Nat} {sh : Nat → Nat × Nat} {n : Nat} (K : Kp Q G)  : ∀ (f : Nat) (v1 : St) (v2 : Nat), Q v1 → G v2 → LkP Q (fn_X18_loadOne F sh n f v1 v2) := by
  intro f
  induction f with
  | zero => intros; exact LkP.none
  | succ d ih =>
    intro z h0 h_z g_h0
    exact (LkP.xg (LkP.ltv (fun v_2 => (LkP.lts (K.1 _ _ _ _ h_z g_h0) (fun z_4 h_z_4 => (LkP.xl (fun k_5 q => have g_k_5 := K.2.2.2.2.2 _ _ _ _ h_z_4 g_h0 q; (LkP.xl (fun k_6 q => have g_k_6 := K.2.2.2.2.2 _ _ _ _ h_z_4 g_h0 q; (LkP.xg (LkP.xl (fun k_8 q => have g_k_8 := K.2.2.2.2.2 _ _ _ _ h_z_4 g_h0 q; (LkP.xg (LkP.xl (fun k_10 q => have g_k_10 := K.2.2.2.2.2 _ _ _ _ h_z_4 g_h0 q; (LkP.xg (LkP.xg (LkP.xc (lkp_fn_X15_make K h_z_4 g_k_5) (fun z_12 r_13 h_z_12 => (lkp_fn_X18_loadOne_L43 K g_h0 (fun w0 w1 hw gw1 => ih w0 w1 hw gw1) _ _ _ h_z_12 ))))))))))))))))))))
theorem lkp_fn_X5_strangeStructure_L5 {F : Nat} {sh : Nat → Nat × Nat} {n : Nat} {h0 : Nat} {x0 : Nat} (K : Kp Q G) (g_h0 : G h0) (g_x0 : G x0) : ∀ (f : Nat) (v1 : St) (v2 : Int32), Q v1 → LkP Q (fn_X5_strangeStructure_L5 F sh n h0 x0 f v1 v2) := by
  intro f
  induction f with
  | zero => intros; exact LkP.none
  | succ f_5 ih =>
    intro z_4 p_3 h_z_4
    exact (LkP.ite (LkP.ret h_z_4) (LkP.xc (lkp_fn_X5_structureColumn K h_z_4 g_h0) (fun z_7 r_8 h_z_7 => (LkP.xg (LkP.calo (lkp_fn_X7_findProgram K h_z_7 g_x0) (fun z_10 r_11 h_z_10 o_r_11 => (LkP.xn (LkP.xc (lkp_fn_X5_structureColumn K h_z_10 g_h0) (fun z_15 r_16 h_z_15 => (LkP.ret h_z_15))) (fun k_14 q => have g_k_14 := o_r_11 _ q; (LkP.xc (lkp_fn_X5_structureColumn K h_z_10 g_h0) (fun z_18 r_19 h_z_18 => (LkP.xg (LkP.ite (LkP.ret h_z_18) (LkP.xc (lkp_fn_X5_structureColumn K h_z_18 g_k_14) (fun z_23 r_24 h_z_23 => (LkP.xc (lkp_fn_X5_structureColumn K h_z_23 g_h0) (fun z_26 r_27 h_z_26 => (LkP.ite (ih _ _ h_z_26 ) (LkP.ret h_z_26))))))))))))))))))
theorem lkp_fn_X5_strangeStructure {F : Nat} {sh : Nat → Nat × Nat} {n : Nat} {z : St} {h0 : Nat} {x0 : Nat} (K : Kp Q G) (h_z : Q z) (g_h0 : G h0) (g_x0 : G x0) : LkP Q (fn_X5_strangeStructure F sh n z h0 x0) := by
  unfold fn_X5_strangeStructure
  exact (LkP.xg (LkP.ltv (fun v_2 => (lkp_fn_X5_strangeStructure_L5 K g_h0 g_x0 _ _ _ h_z ))))
theorem lkp_fn_X14_isLess {F : Nat} {sh : Nat → Nat × Nat} {n : Nat} {z : St} {h0 : Nat} {x0 : Int32} {x1 : Int32} {x2 : Int64} {x3 : Int32} (K : Kp Q G) (h_z : Q z) (g_h0 : G h0) : LkP Q (fn_X14_isLess F sh n z h0 x0 x1 x2 x3) := by
  unfold fn_X14_isLess
  exact (LkP.xg (LkP.xl (fun k_2 q => have g_k_2 := K.2.2.2.2.2 _ _ _ _ h_z g_h0 q; (LkP.xg (LkP.ite (LkP.xl (fun k_5 q => have g_k_5 := K.2.2.2.2.2 _ _ _ _ h_z g_h0 q; (LkP.xg (LkP.ite (LkP.xl (fun k_8 q => have g_k_8 := K.2.2.2.2.2 _ _ _ _ h_z g_h0 q; (LkP.xg (LkP.ite (LkP.ret h_z) (LkP.ret h_z))))) (LkP.xl (fun k_11 q => have g_k_11 := K.2.2.2.2.2 _ _ _ _ h_z g_h0 q; (LkP.xg (LkP.xc (lkp_fn_X14_order K h_z) (fun z_13 r_14 h_z_13 => (LkP.ite (LkP.ret h_z_13) (LkP.ret h_z_13))))))))))) (LkP.xl (fun k_17 q => have g_k_17 := K.2.2.2.2.2 _ _ _ _ h_z g_h0 q; (LkP.xg (LkP.ite (LkP.ret h_z) (LkP.ret h_z))))))))))
theorem lkp_fn_X15_swap {F : Nat} {sh : Nat → Nat × Nat} {n : Nat} {z : St} {h0 : Nat} {x0 : Int32} {x1 : Int32} (K : Kp Q G) (h_z : Q z) (g_h0 : G h0) : LkP Q (fn_X15_swap F sh n z h0 x0 x1) := by
  unfold fn_X15_swap
  exact (LkP.xg (LkP.xl (fun k_2 q => have g_k_2 := K.2.2.2.2.2 _ _ _ _ h_z g_h0 q; (LkP.xg (LkP.ltv (fun v_4 => (LkP.xl (fun k_5 q => have g_k_5 := K.2.2.2.2.2 _ _ _ _ h_z g_h0 q; (LkP.xg (LkP.ltv (fun v_7 => (LkP.xl (fun k_8 q => have g_k_8 := K.2.2.2.2.2 _ _ _ _ h_z g_h0 q; (LkP.xg (LkP.ltv (fun v_10 => (LkP.xl (fun k_11 q => have g_k_11 := K.2.2.2.2.2 _ _ _ _ h_z g_h0 q; (LkP.xg (LkP.ltv (fun v_13 => (LkP.xc (lkp_fn_X15_become K h_z g_h0) (fun z_14 _ h_z_14 => (LkP.xl (fun k_16 q => have g_k_16 := K.2.2.2.2.2 _ _ _ _ h_z_14 g_h0 q; (LkP.xg (LkP.lts (K.1 _ _ _ _ h_z_14 g_k_16) (fun z_19 h_z_19 => (LkP.xl (fun k_20 q => have g_k_20 := K.2.2.2.2.2 _ _ _ _ h_z_19 g_h0 q; (LkP.xg (LkP.lts (K.2.1 _ _ _ _ h_z_19 g_k_20) (fun z_23 h_z_23 => (LkP.xl (fun k_24 q => have g_k_24 := K.2.2.2.2.2 _ _ _ _ h_z_23 g_h0 q; (LkP.xg (LkP.lts (K.2.1 _ _ _ _ h_z_23 g_k_24) (fun z_27 h_z_27 => (LkP.xl (fun k_28 q => have g_k_28 := K.2.2.2.2.2 _ _ _ _ h_z_27 g_h0 q; (LkP.xg (LkP.lts (K.1 _ _ _ _ h_z_27 g_k_28) (fun z_31 h_z_31 => (LkP.ret h_z_31))))))))))))))))))))))))))))))))))))))))))))
theorem lkp_fn_X18_depthOf_B57 {F : Nat} {sh : Nat → Nat × Nat} {n : Nat} {x1 : Int64} {p_4 : Int32} {z_10 : St} {p_9 : Int32} (K : Kp Q G) (h_z_10 : Q z_10) : LkP Q (fn_X18_depthOf_B57 F sh n x1 p_4 z_10 p_9) := by
  unfold fn_X18_depthOf_B57
  exact (LkP.xc (lkp_fn_X18_endsInStructure K h_z_10) (fun z_11 r_12 h_z_11 => (LkP.ite (LkP.ret h_z_11) (LkP.ret h_z_11))))
theorem lkp_fn_X18_depthOf_L32 {F : Nat} {sh : Nat → Nat × Nat} {n : Nat} {x1 : Int64} {p_4 : Int32} (K : Kp Q G)  : ∀ (f : Nat) (v1 : St) (v2 : Int32), Q v1 → LkP Q (fn_X18_depthOf_L32 F sh n x1 p_4 f v1 v2) := by
  intro f
  induction f with
  | zero => intros; exact LkP.none
  | succ f_8 ih =>
    intro z_7 p_6 h_z_7
    exact (LkP.ite (lkp_fn_X18_depthOf_B57 K h_z_7) (LkP.ite (lkp_fn_X18_depthOf_B57 K h_z_7) (ih _ _ h_z_7 )))
theorem lkp_fn_X18_depthOf_B27 {F : Nat} {sh : Nat → Nat × Nat} {n : Nat} {x1 : Int64} {z_5 : St} {p_4 : Int32} (K : Kp Q G) (h_z_5 : Q z_5) : LkP Q (fn_X18_depthOf_B27 F sh n x1 z_5 p_4) := by
  unfold fn_X18_depthOf_B27
  exact (lkp_fn_X18_depthOf_L32 K  _ _ _ h_z_5 )
theorem lkp_fn_X18_depthOf {F : Nat} {sh : Nat → Nat × Nat} {n : Nat} {z : St} {h0 : Nat} {x0 : Int32} {x1 : Int64} (K : Kp Q G) (h_z : Q z) (g_h0 : G h0) : LkP Q (fn_X18_depthOf F sh n z h0 x0 x1) := by
  unfold fn_X18_depthOf
  exact (LkP.xc (lkp_fn_X18_endsInStructure K h_z) (fun z_1 r_2 h_z_1 => (LkP.ite (lkp_fn_X18_depthOf_B27 K h_z_1) (LkP.xg (LkP.xl (fun k_19 q => have g_k_19 := K.2.2.2.2.2 _ _ _ _ h_z_1 g_h0 q; (LkP.xg (lkp_fn_X18_depthOf_B27 K h_z_1))))))))
theorem lkp_fn_X18_result {F : Nat} {sh : Nat → Nat × Nat} {n : Nat} {z : St} {h0 : Nat} {x0 : Int32} {x1 : Int32} {x2 : Int32} (K : Kp Q G) (h_z : Q z) (g_h0 : G h0) : LkP Q (fn_X18_result F sh n z h0 x0 x1 x2) := by
  unfold fn_X18_result
  exact (LkP.xg (LkP.xc (lkp_fn_X18_isDone K h_z g_h0) (fun z_1 r_2 h_z_1 => (LkP.ite (LkP.ret h_z_1) (LkP.ite (LkP.ret h_z_1) (LkP.xl (fun k_7 q => have g_k_7 := K.2.2.2.2.2 _ _ _ _ h_z_1 g_h0 q; (LkP.xg (LkP.ite (LkP.ret h_z_1) (LkP.ite (LkP.ret h_z_1) (LkP.ite (LkP.ltv (fun v_12 => (LkP.ite (LkP.xl (fun k_19 q => have g_k_19 := K.2.2.2.2.2 _ _ _ _ h_z_1 g_h0 q; (LkP.xg (LkP.ret h_z_1)))) (LkP.ite (LkP.xl (fun k_17 q => have g_k_17 := K.2.2.2.2.2 _ _ _ _ h_z_1 g_h0 q; (LkP.xg (LkP.ret h_z_1)))) (LkP.xl (fun k_15 q => have g_k_15 := K.2.2.2.2.2 _ _ _ _ h_z_1 g_h0 q; (LkP.xg (LkP.ret h_z_1)))))))) (LkP.ret h_z_1))))))))))))
theorem lkp_fn_X18_told {F : Nat} {sh : Nat → Nat × Nat} {n : Nat} {z : St} {h0 : Nat} {x0 : Int32} {x1 : Int32} (K : Kp Q G) (h_z : Q z) (g_h0 : G h0) : LkP Q (fn_X18_told F sh n z h0 x0 x1) := by
  unfold fn_X18_told
  exact (LkP.ite (LkP.ret h_z) (LkP.xg (LkP.ite (LkP.ret h_z) (LkP.ite (LkP.ret h_z) (LkP.ite (LkP.xc (lkp_fn_X18_isDone K h_z g_h0) (fun z_6 r_7 h_z_6 => (LkP.ite (LkP.ret h_z_6) (LkP.ite (LkP.xl (fun k_19 q => have g_k_19 := K.2.2.2.2.2 _ _ _ _ h_z_6 g_h0 q; (LkP.xg (LkP.ret h_z_6)))) (LkP.ite (LkP.xl (fun k_17 q => have g_k_17 := K.2.2.2.2.2 _ _ _ _ h_z_6 g_h0 q; (LkP.xg (LkP.ret h_z_6)))) (LkP.ite (LkP.xl (fun k_15 q => have g_k_15 := K.2.2.2.2.2 _ _ _ _ h_z_6 g_h0 q; (LkP.xg (LkP.ret h_z_6)))) (LkP.xl (fun k_13 q => have g_k_13 := K.2.2.2.2.2 _ _ _ _ h_z_6 g_h0 q; (LkP.xg (LkP.ret h_z_6)))))))))) (LkP.ret h_z))))))
theorem lkp_fn_X18_publish_L36 {F : Nat} {sh : Nat → Nat × Nat} {n : Nat} {h0 : Nat} {r_8 : Int32} (K : Kp Q G) (g_h0 : G h0) : ∀ (f : Nat) (v1 : St) (v2 : Int32), Q v1 → LkP Q (fn_X18_publish_L36 F sh n h0 r_8 f v1 v2) := by
  intro f
  induction f with
  | zero => intros; exact LkP.none
  | succ f_12 ih =>
    intro z_11 p_10 h_z_11
    exact (LkP.ite (LkP.xl (fun k_14 q => have g_k_14 := K.2.2.2.2.2 _ _ _ _ h_z_11 g_h0 q; (LkP.xg (LkP.lts (K.1 _ _ _ _ h_z_11 g_k_14) (fun z_17 h_z_17 => (LkP.lts (K.1 _ _ _ _ h_z_17 g_h0) (fun z_19 h_z_19 => (LkP.ret h_z_19)))))))) (LkP.xl (fun k_20 q => have g_k_20 := K.2.2.2.2.2 _ _ _ _ h_z_11 g_h0 q; (LkP.xl (fun k_21 q => have g_k_21 := K.2.2.2.2.2 _ _ _ _ h_z_11 g_h0 q; (LkP.xg (LkP.xg (LkP.lts (K.1 _ _ _ _ h_z_11 g_k_20) (fun z_25 h_z_25 => (ih _ _ h_z_25 ))))))))))
theorem lkp_fn_X18_publish {F : Nat} {sh : Nat → Nat × Nat} {n : Nat} {z : St} {h0 : Nat} {x0 : Int64} {x1 : Int64} {x2 : Int32} (K : Kp Q G) (h_z : Q z) (g_h0 : G h0) : LkP Q (fn_X18_publish F sh n z h0 x0 x1 x2) := by
  unfold fn_X18_publish
  exact (LkP.xc (lkp_fn_X18_isLimit K h_z) (fun z_1 r_2 h_z_1 => (LkP.ite (LkP.ret h_z_1) (LkP.xg (LkP.ite (LkP.ret h_z_1) (LkP.xc (lkp_fn_X18_add K h_z_1 g_h0) (fun z_7 r_8 h_z_7 => (lkp_fn_X18_publish_L36 K g_h0 _ _ _ h_z_7 ))))))))
theorem lkp_fn_X18_coins_L57 {F : Nat} {sh : Nat → Nat × Nat} {n : Nat} {h0 : Nat} {x0 : Int32} (K : Kp Q G) (g_h0 : G h0) : ∀ (f : Nat) (v1 : St) (v2 : Int64) (v3 : Int32), Q v1 → LkP Q (fn_X18_coins_L57 F sh n h0 x0 f v1 v2 v3) := by
  intro f
  induction f with
  | zero => intros; exact LkP.none
  | succ f_13 ih =>
    intro z_12 p_10 p_11 h_z_12
    exact (LkP.ite (LkP.ret h_z_12) (LkP.ite (LkP.xc (lkp_fn_X18_coinsIn K h_z_12 g_h0) (fun z_16 r_17 h_z_16 => (LkP.ltv (fun v_19 => (ih _ _ _ h_z_16 ))))) (LkP.ret h_z_12)))
theorem lkp_fn_X18_coins_B54 {F : Nat} {sh : Nat → Nat × Nat} {n : Nat} {h0 : Nat} {x0 : Int32} {z_9 : St} {p_8 : Int64} (K : Kp Q G) (h_z_9 : Q z_9) (g_h0 : G h0) : LkP Q (fn_X18_coins_B54 F sh n h0 x0 z_9 p_8) := by
  unfold fn_X18_coins_B54
  exact (lkp_fn_X18_coins_L57 K g_h0 _ _ _ _ h_z_9 )
theorem lkp_fn_X18_coins_L24 {F : Nat} {sh : Nat → Nat × Nat} {n : Nat} {h0 : Nat} {x0 : Int32} (K : Kp Q G) (g_h0 : G h0) : ∀ (f : Nat) (v1 : St) (v2 : Int64) (v3 : Int32), Q v1 → LkP Q (fn_X18_coins_L24 F sh n h0 x0 f v1 v2 v3) := by
  intro f
  induction f with
  | zero => intros; exact LkP.none
  | succ f_6 ih =>
    intro z_5 p_3 p_4 h_z_5
    exact (LkP.xg (LkP.ite (lkp_fn_X18_coins_B54 K h_z_5 g_h0) (LkP.ite (LkP.xl (fun k_22 q => have g_k_22 := K.2.2.2.2.2 _ _ _ _ h_z_5 g_h0 q; (LkP.xg (LkP.ltv (fun v_24 => (ih _ _ _ h_z_5 )))))) (lkp_fn_X18_coins_B54 K h_z_5 g_h0))))
theorem lkp_fn_X18_coins {F : Nat} {sh : Nat → Nat × Nat} {n : Nat} {z : St} {h0 : Nat} {x0 : Int32} (K : Kp Q G) (h_z : Q z) (g_h0 : G h0) : LkP Q (fn_X18_coins F sh n z h0 x0) := by
  unfold fn_X18_coins
  exact (LkP.ite (LkP.xg (LkP.ret h_z)) (LkP.ite (LkP.xg (LkP.ret h_z)) (lkp_fn_X18_coins_L24 K g_h0 _ _ _ _ h_z )))
theorem lkp_fn_X5_sameType {F : Nat} {sh : Nat → Nat × Nat} {n : Nat} {z : St} {h0 : Nat} {x0 : Int64} {x1 : Nat} {x2 : Int64} (K : Kp Q G) (h_z : Q z) (g_h0 : G h0) (g_x1 : G x1) : LkP Q (fn_X5_sameType F sh n z h0 x0 x1 x2) := by
  unfold fn_X5_sameType
  exact (LkP.ite (LkP.xc (lkp_fn_X5_endsInStructure K h_z) (fun z_2 r_3 h_z_2 => (LkP.ite (LkP.ite (LkP.ret h_z_2) (LkP.ret h_z_2)) (LkP.ltv (fun v_6 => (LkP.ltv (fun v_7 => (LkP.xg (LkP.xc (lkp_fn_X5_structureColumn K h_z_2 g_h0) (fun z_8 r_9 h_z_8 => (LkP.xg (LkP.xc (lkp_fn_X5_structureColumn K h_z_8 g_x1) (fun z_12 r_13 h_z_12 => (LkP.ite (LkP.xc (lkp_fn_X5_structureColumn K h_z_12 g_h0) (fun z_17 r_18 h_z_17 => (LkP.xc (lkp_fn_X5_structureColumn K h_z_17 g_x1) (fun z_20 r_21 h_z_20 => (LkP.ite (LkP.ret h_z_20) (LkP.ret h_z_20)))))) (LkP.ret h_z_12))))))))))))))) (LkP.ret h_z))
theorem lkp_fn_X11_call {F : Nat} {sh : Nat → Nat × Nat} {n : Nat} {z : St} {h0 : Nat} {x0 : Int64} {x1 : Int64} {x2 : Int32} {x3 : Int32} {x4 : Int32} (K : Kp Q G) (h_z : Q z) (g_h0 : G h0) : LkP Q (fn_X11_call F sh n z h0 x0 x1 x2 x3 x4) := by
  unfold fn_X11_call
  exact (LkP.ite (LkP.ret h_z) (LkP.ite (LkP.ite (LkP.ret h_z) (LkP.ite (LkP.ret h_z) (LkP.ite (LkP.ret h_z) (LkP.ite (LkP.xg (LkP.ite (LkP.xl (fun k_9 q => have g_k_9 := K.2.2.2.2.2 _ _ _ _ h_z g_h0 q; (LkP.xg (LkP.xl (fun k_11 q => have g_k_11 := K.2.2.2.2.2 _ _ _ _ h_z g_k_9 q; (LkP.xg (LkP.xc (lkp_fn_X8_lay K h_z g_k_11) (fun z_12 _ h_z_12 => (LkP.lts (K.1 _ _ _ _ h_z_12 g_k_11) (fun z_16 h_z_16 => (LkP.lts (K.1 _ _ _ _ h_z_16 g_k_11) (fun z_18 h_z_18 => (LkP.lts (K.1 _ _ _ _ h_z_18 g_k_11) (fun z_20 h_z_20 => (LkP.ltv (fun v_21 => (LkP.lts (K.1 _ _ _ _ h_z_20 g_h0) (fun z_23 h_z_23 => (LkP.ret h_z_23))))))))))))))))))) (LkP.ret h_z))) (LkP.ret h_z))))) (LkP.ret h_z)))
theorem lkp_fn_X1_child_B29 {F : Nat} {sh : Nat → Nat × Nat} {n : Nat} {h0 : Nat} {z_7 : St} (K : Kp Q G) (h_z_7 : Q z_7) (g_h0 : G h0) : LkP Q (fn_X1_child_B29 F sh n h0 z_7) := by
  unfold fn_X1_child_B29
  exact (LkP.lts (K.1 _ _ _ _ h_z_7 g_h0) (fun z_9 h_z_9 => (LkP.ret h_z_9)))
theorem lkp_fn_X1_child_L60 {F : Nat} {sh : Nat → Nat × Nat} {n : Nat} {x1 : Int64} {h0 : Nat} (K : Kp Q G) (g_h0 : G h0) : ∀ (f : Nat) (v1 : St) (v2 : Int32) (v3 : Int64), Q v1 → LkP Q (fn_X1_child_L60 F sh n x1 h0 f v1 v2 v3) := by
  intro f
  induction f with
  | zero => intros; exact LkP.none
  | succ f_24 ih =>
    intro z_23 p_21 p_22 h_z_23
    exact (LkP.ite (LkP.ret h_z_23) (LkP.ite (LkP.ret h_z_23) (LkP.xl (fun k_27 q => have g_k_27 := K.2.2.2.2.2 _ _ _ _ h_z_23 g_h0 q; (LkP.xg (LkP.ltv (fun v_29 => (LkP.ltv (fun v_30 => (ih _ _ _ h_z_23 ))))))))))
theorem lkp_fn_X1_child {F : Nat} {sh : Nat → Nat × Nat} {n : Nat} {z : St} {h0 : Nat} {x0 : Int32} {x1 : Int64} (K : Kp Q G) (h_z : Q z) (g_h0 : G h0) : LkP Q (fn_X1_child F sh n z h0 x0 x1) := by
  unfold fn_X1_child
  exact (LkP.xg (LkP.xl (fun k_2 q => have g_k_2 := K.2.2.2.2.2 _ _ _ _ h_z g_h0 q; (LkP.xg (LkP.xc (lkp_fn_X1_holdsOthers K h_z) (fun z_4 r_5 h_z_4 => (LkP.ite (lkp_fn_X1_child_B29 K h_z_4 g_h0) (LkP.ite (lkp_fn_X1_child_B29 K h_z_4 g_h0) (LkP.xl (fun k_12 q => have g_k_12 := K.2.2.2.2.2 _ _ _ _ h_z_4 g_h0 q; (LkP.xg (LkP.ite (LkP.xl (fun k_15 q => have g_k_15 := K.2.2.2.2.2 _ _ _ _ h_z_4 g_h0 q; (LkP.xg (LkP.ltv (fun v_17 => (LkP.xl (fun k_18 q => have g_k_18 := K.2.2.2.2.2 _ _ _ _ h_z_4 g_h0 q; (LkP.xg (LkP.ltv (fun v_20 => (lkp_fn_X1_child_L60 K g_h0 _ _ _ _ h_z_4 ))))))))))) (lkp_fn_X1_child_B29 K h_z_4 g_h0)))))))))))))
theorem lkp_fn_X4_gather_L45 {F : Nat} {sh : Nat → Nat × Nat} {n : Nat} {v_4 : Int32} {x1 : Int32} {h0 : Nat} {r_8 : Int32} (K : Kp Q G) (g_h0 : G h0) : ∀ (f : Nat) (v1 : St) (v2 : Int32), Q v1 → LkP Q (fn_X4_gather_L45 F sh n v_4 x1 h0 r_8 f v1 v2) := by
  intro f
  induction f with
  | zero => intros; exact LkP.none
  | succ f_13 ih =>
    intro z_12 p_11 h_z_12
    exact (LkP.ite (LkP.xl (fun k_15 q => have g_k_15 := K.2.2.2.2.2 _ _ _ _ h_z_12 g_h0 q; (LkP.xg (LkP.lts (K.1 _ _ _ _ h_z_12 g_k_15) (fun z_18 h_z_18 => (LkP.xc (lkp_fn_X4_push K h_z_18 g_h0) (fun z_19 _ h_z_19 => (LkP.ret h_z_19)))))))) (LkP.xl (fun k_21 q => have g_k_21 := K.2.2.2.2.2 _ _ _ _ h_z_12 g_h0 q; (LkP.xl (fun k_22 q => have g_k_22 := K.2.2.2.2.2 _ _ _ _ h_z_12 g_h0 q; (LkP.xg (LkP.xg (LkP.xc (lkp_fn_X1_prepend K h_z_12 g_k_21) (fun z_24 _ h_z_24 => (ih _ _ h_z_24 ))))))))))
theorem lkp_fn_X4_gather {F : Nat} {sh : Nat → Nat × Nat} {n : Nat} {z : St} {h0 : Nat} {x0 : Int32} {x1 : Int32} (K : Kp Q G) (h_z : Q z) (g_h0 : G h0) : LkP Q (fn_X4_gather F sh n z h0 x0 x1) := by
  unfold fn_X4_gather
  exact (LkP.xg (LkP.xl (fun k_2 q => have g_k_2 := K.2.2.2.2.2 _ _ _ _ h_z g_h0 q; (LkP.xg (LkP.ltv (fun v_4 => (LkP.ite (LkP.xl (fun k_6 q => have g_k_6 := K.2.2.2.2.2 _ _ _ _ h_z g_h0 q; (LkP.xg (LkP.xc (lkp_fn_X1_make K h_z g_k_6) (fun z_7 r_8 h_z_7 => (lkp_fn_X4_gather_L45 K g_h0 _ _ _ h_z_7 )))))) (LkP.xl (fun k_27 q => have g_k_27 := K.2.2.2.2.2 _ _ _ _ h_z g_h0 q; (LkP.xg (LkP.lts (K.1 _ _ _ _ h_z g_k_27) (fun z_30 h_z_30 => (LkP.ret h_z_30)))))))))))))
theorem lkp_fn_X1_detach_B34 {F : Nat} {sh : Nat → Nat × Nat} {n : Nat} {h0 : Nat} {z_7 : St} (K : Kp Q G) (h_z_7 : Q z_7) (g_h0 : G h0) : LkP Q (fn_X1_detach_B34 F sh n h0 z_7) := by
  unfold fn_X1_detach_B34
  exact (LkP.lts (K.1 _ _ _ _ h_z_7 g_h0) (fun z_9 h_z_9 => (LkP.ret h_z_9)))
theorem lkp_fn_X1_detach {F : Nat} {sh : Nat → Nat × Nat} {n : Nat} {z : St} {h0 : Nat} {x0 : Int32} (K : Kp Q G) (h_z : Q z) (g_h0 : G h0) : LkP Q (fn_X1_detach F sh n z h0 x0) := by
  unfold fn_X1_detach
  exact (LkP.xg (LkP.xl (fun k_2 q => have g_k_2 := K.2.2.2.2.2 _ _ _ _ h_z g_h0 q; (LkP.xg (LkP.xc (lkp_fn_X1_holdsOthers K h_z) (fun z_4 r_5 h_z_4 => (LkP.ite (lkp_fn_X1_detach_B34 K h_z_4 g_h0) (LkP.xl (fun k_11 q => have g_k_11 := K.2.2.2.2.2 _ _ _ _ h_z_4 g_h0 q; (LkP.xg (LkP.ite (lkp_fn_X1_detach_B34 K h_z_4 g_h0) (LkP.xl (fun k_14 q => have g_k_14 := K.2.2.2.2.2 _ _ _ _ h_z_4 g_h0 q; (LkP.xg (LkP.ite (lkp_fn_X1_detach_B34 K h_z_4 g_h0) (LkP.xl (fun k_17 q => have g_k_17 := K.2.2.2.2.2 _ _ _ _ h_z_4 g_h0 q; (LkP.xg (LkP.ltv (fun v_19 => (LkP.xl (fun k_20 q => have g_k_20 := K.2.2.2.2.2 _ _ _ _ h_z_4 g_h0 q; (LkP.xl (fun k_21 q => have g_k_21 := K.2.2.2.2.2 _ _ _ _ h_z_4 g_h0 q; (LkP.xg (LkP.xg (LkP.lts (K.2.1 _ _ _ _ h_z_4 g_k_20) (fun z_25 h_z_25 => (LkP.xl (fun k_26 q => have g_k_26 := K.2.2.2.2.2 _ _ _ _ h_z_25 g_h0 q; (LkP.xg (LkP.xg (LkP.lts (K.2.1 _ _ _ _ h_z_25 g_k_26) (fun z_30 h_z_30 => (LkP.xl (fun k_31 q => have g_k_31 := K.2.2.2.2.2 _ _ _ _ h_z_30 g_h0 q; (LkP.xg (LkP.lts (K.1 _ _ _ _ h_z_30 g_k_31) (fun z_34 h_z_34 => (LkP.ret h_z_34))))))))))))))))))))))))))))))))))))))))
theorem lkp_fn_X3_arrive_B68 {F : Nat} {sh : Nat → Nat × Nat} {n : Nat} {h0 : Nat} {z_8 : St} (K : Kp Q G) (h_z_8 : Q z_8) (g_h0 : G h0) : LkP Q (fn_X3_arrive_B68 F sh n h0 z_8) := by
  unfold fn_X3_arrive_B68
  exact (LkP.xl (fun k_9 q => have g_k_9 := K.2.2.2.2.2 _ _ _ _ h_z_8 g_h0 q; (LkP.xg (LkP.lts (K.2.1 _ _ _ _ h_z_8 g_h0) (fun z_12 h_z_12 => (LkP.xl (fun k_13 q => have g_k_13 := K.2.2.2.2.2 _ _ _ _ h_z_12 g_h0 q; (LkP.xg (LkP.lts (K.2.1 _ _ _ _ h_z_12 g_h0) (fun z_16 h_z_16 => (LkP.xl (fun k_17 q => have g_k_17 := K.2.2.2.2.2 _ _ _ _ h_z_16 g_h0 q; (LkP.xl (fun k_18 q => have g_k_18 := K.2.2.2.2.2 _ _ _ _ h_z_16 g_h0 q; (LkP.xg (LkP.xg (LkP.xg (LkP.lts (K.2.2.2.2.1 _ _ _ _ _ _ h_z_16 g_k_18) (fun z_23 h_z_23 => (LkP.ret h_z_23))))))))))))))))))))
theorem lkp_fn_X3_arrive_B43 {F : Nat} {sh : Nat → Nat × Nat} {n : Nat} {h0 : Nat} {z_4 : St} (K : Kp Q G) (h_z_4 : Q z_4) (g_h0 : G h0) : LkP Q (fn_X3_arrive_B43 F sh n h0 z_4) := by
  unfold fn_X3_arrive_B43
  exact (LkP.xl (fun k_5 q => have g_k_5 := K.2.2.2.2.2 _ _ _ _ h_z_4 g_h0 q; (LkP.xg (LkP.ite (LkP.ret h_z_4) (LkP.ite (lkp_fn_X3_arrive_B68 K h_z_4 g_h0) (LkP.xc (lkp_fn_X3_fail K h_z_4 g_h0) (fun z_25 _ h_z_25 => (lkp_fn_X3_arrive_B68 K h_z_25 g_h0))))))))
theorem lkp_fn_X3_arrive {F : Nat} {sh : Nat → Nat × Nat} {n : Nat} {z : St} {h0 : Nat} (K : Kp Q G) (h_z : Q z) (g_h0 : G h0) : LkP Q (fn_X3_arrive F sh n z h0) := by
  unfold fn_X3_arrive
  exact (LkP.xg (LkP.xl (fun k_2 q => have g_k_2 := K.2.2.2.2.2 _ _ _ _ h_z g_h0 q; (LkP.xg (LkP.ite (LkP.ite (LkP.xc (lkp_fn_X3_fail K h_z g_h0) (fun z_29 _ h_z_29 => (LkP.ret h_z_29))) (lkp_fn_X3_arrive_B43 K h_z g_h0)) (LkP.xl (fun k_31 q => have g_k_31 := K.2.2.2.2.2 _ _ _ _ h_z g_h0 q; (LkP.xg (LkP.ite (LkP.xc (lkp_fn_X3_fail K h_z g_h0) (fun z_34 _ h_z_34 => (LkP.ret h_z_34))) (lkp_fn_X3_arrive_B43 K h_z g_h0))))))))))
theorem lkp_fn_X11_mint_B72 {F : Nat} {sh : Nat → Nat × Nat} {n : Nat} {h0 : Nat} {x1 : Int64} {z_14 : St} {p_13 : Int32} (K : Kp Q G) (h_z_14 : Q z_14) (g_h0 : G h0) : LkP Q (fn_X11_mint_B72 F sh n h0 x1 z_14 p_13) := by
  unfold fn_X11_mint_B72
  exact (LkP.xl (fun k_15 q => have g_k_15 := K.2.2.2.2.2 _ _ _ _ h_z_14 g_h0 q; (LkP.xg (LkP.xl (fun k_17 q => have g_k_17 := K.2.2.2.2.2 _ _ _ _ h_z_14 g_k_15 q; (LkP.xg (LkP.xg (LkP.lts (K.2.1 _ _ _ _ h_z_14 g_k_17) (fun z_21 h_z_21 => (LkP.xl (fun k_22 q => have g_k_22 := K.2.2.2.2.2 _ _ _ _ h_z_21 g_h0 q; (LkP.xg (LkP.lts (K.2.1 _ _ _ _ h_z_21 g_k_22) (fun z_25 h_z_25 => (LkP.xl (fun k_26 q => have g_k_26 := K.2.2.2.2.2 _ _ _ _ h_z_25 g_h0 q; (LkP.xg (LkP.lts (K.1 _ _ _ _ h_z_25 g_k_26) (fun z_29 h_z_29 => (LkP.ret h_z_29))))))))))))))))))))
theorem lkp_fn_X11_mint {F : Nat} {sh : Nat → Nat × Nat} {n : Nat} {z : St} {h0 : Nat} {x0 : Int64} {x1 : Int64} (K : Kp Q G) (h_z : Q z) (g_h0 : G h0) : LkP Q (fn_X11_mint F sh n z h0 x0 x1) := by
  unfold fn_X11_mint
  exact (LkP.ite (LkP.ret h_z) (LkP.xg (LkP.xl (fun k_3 q => have g_k_3 := K.2.2.2.2.2 _ _ _ _ h_z g_h0 q; (LkP.xg (LkP.xl (fun k_5 q => have g_k_5 := K.2.2.2.2.2 _ _ _ _ h_z g_h0 q; (LkP.xg (LkP.ite (LkP.xl (fun k_8 q => have g_k_8 := K.2.2.2.2.2 _ _ _ _ h_z g_h0 q; (LkP.xg (LkP.xc (lkp_fn_X7_findAccount K h_z g_k_8) (fun z_9 r_10 h_z_9 => (LkP.ite (lkp_fn_X11_mint_B72 K h_z_9 g_h0) (LkP.xl (fun k_31 q => have g_k_31 := K.2.2.2.2.2 _ _ _ _ h_z_9 g_h0 q; (LkP.xg (LkP.xc (lkp_fn_X7_placeCount K h_z_9 g_k_31) (fun z_32 r_33 h_z_32 => (LkP.ite (LkP.xl (fun k_37 q => have g_k_37 := K.2.2.2.2.2 _ _ _ _ h_z_32 g_h0 q; (LkP.xg (LkP.xc (lkp_fn_X7_openAccount K h_z_32 g_k_37) (fun z_38 r_39 h_z_38 => (lkp_fn_X11_mint_B72 K h_z_38 g_h0)))))) (LkP.ret h_z_32))))))))))))) (LkP.ret h_z))))))))))
theorem lkp_fn_X1_sizeAt_L45 {F : Nat} {sh : Nat → Nat × Nat} {n : Nat} {h0 : Nat} {x0 : Int32} {rec : St → Nat → Int32 → Int32 → Option (St × Int32)} {x1 : Int32} (K : Kp Q G) (g_h0 : G h0) (hko_rec : ∀ (w0 : St) (w1 : Nat) (w2 : Int32) (w3 : Int32), Q w0 → G w1 → LkP Q (rec w0 w1 w2 w3)) : ∀ (f : Nat) (v1 : St) (v2 : Int32) (v3 : Int32) (v4 : Int64), Q v1 → LkP Q (fn_X1_sizeAt_L45 F sh n h0 x0 rec x1 f v1 v2 v3 v4) := by
  intro f
  induction f with
  | zero => intros; exact LkP.none
  | succ f_19 ih =>
    intro z_18 p_15 p_16 p_17 h_z_18
    exact (LkP.xl (fun k_20 q => have g_k_20 := K.2.2.2.2.2 _ _ _ _ h_z_18 g_h0 q; (LkP.xg (LkP.ite (LkP.ret h_z_18) (LkP.ite (LkP.ret h_z_18) (LkP.ite (LkP.ret h_z_18) (LkP.xc (hko_rec _ _ _ _ h_z_18 g_h0) (fun z_25 r_26 h_z_25 => (LkP.ltv (fun v_28 => (LkP.xl (fun k_29 q => have g_k_29 := K.2.2.2.2.2 _ _ _ _ h_z_25 g_h0 q; (LkP.xg (LkP.ltv (fun v_31 => (LkP.ltv (fun v_32 => (ih _ _ _ _ h_z_25 ))))))))))))))))))
theorem lkp_fn_X1_sizeAt {F : Nat} {sh : Nat → Nat × Nat} {n : Nat} (K : Kp Q G)  : ∀ (f : Nat) (v1 : St) (v2 : Nat) (v3 : Int32) (v4 : Int32), Q v1 → G v2 → LkP Q (fn_X1_sizeAt F sh n f v1 v2 v3 v4) := by
  intro f
  induction f with
  | zero => intros; exact LkP.none
  | succ d ih =>
    intro z h0 x0 x1 h_z g_h0
    exact (LkP.xg (LkP.xl (fun k_2 q => have g_k_2 := K.2.2.2.2.2 _ _ _ _ h_z g_h0 q; (LkP.xg (LkP.ite (LkP.ret h_z) (LkP.xl (fun k_5 q => have g_k_5 := K.2.2.2.2.2 _ _ _ _ h_z g_h0 q; (LkP.xg (LkP.xc (lkp_fn_X1_holdsOthers K h_z) (fun z_7 r_8 h_z_7 => (LkP.ite (LkP.ret h_z_7) (LkP.ite (LkP.ret h_z_7) (LkP.xl (fun k_12 q => have g_k_12 := K.2.2.2.2.2 _ _ _ _ h_z_7 g_h0 q; (LkP.xg (LkP.ltv (fun v_14 => (lkp_fn_X1_sizeAt_L45 K g_h0 (fun w0 w1 w2 w3 hw gw1 => ih w0 w1 w2 w3 hw gw1) _ _ _ _ _ h_z_7 ))))))))))))))))))
theorem lkp_fn_X18_mint_B81 {F : Nat} {sh : Nat → Nat × Nat} {n : Nat} {h0 : Nat} {x1 : Int64} {z_10 : St} {p_9 : Int32} (K : Kp Q G) (h_z_10 : Q z_10) (g_h0 : G h0) : LkP Q (fn_X18_mint_B81 F sh n h0 x1 z_10 p_9) := by
  unfold fn_X18_mint_B81
  exact (LkP.xl (fun k_11 q => have g_k_11 := K.2.2.2.2.2 _ _ _ _ h_z_10 g_h0 q; (LkP.xg (LkP.xg (LkP.lts (K.2.1 _ _ _ _ h_z_10 g_k_11) (fun z_15 h_z_15 => (LkP.lts (K.2.1 _ _ _ _ h_z_15 g_h0) (fun z_17 h_z_17 => (LkP.ret h_z_17)))))))))
theorem lkp_fn_X18_mint_B66 {F : Nat} {sh : Nat → Nat × Nat} {n : Nat} {r_6 : Int32} {h0 : Nat} {x1 : Int64} {x0 : Int64} {z_8 : St} (K : Kp Q G) (h_z_8 : Q z_8) (g_h0 : G h0) : LkP Q (fn_X18_mint_B66 F sh n r_6 h0 x1 x0 z_8) := by
  unfold fn_X18_mint_B66
  exact (LkP.ite (lkp_fn_X18_mint_B81 K h_z_8 g_h0) (LkP.xc (lkp_fn_X18_newAccount K h_z_8 g_h0) (fun z_19 r_20 h_z_19 => (lkp_fn_X18_mint_B81 K h_z_19 g_h0))))
theorem lkp_fn_X18_mint {F : Nat} {sh : Nat → Nat × Nat} {n : Nat} {z : St} {h0 : Nat} {x0 : Int64} {x1 : Int64} (K : Kp Q G) (h_z : Q z) (g_h0 : G h0) : LkP Q (fn_X18_mint F sh n z h0 x0 x1) := by
  unfold fn_X18_mint
  exact (LkP.ite (LkP.ret h_z) (LkP.xg (LkP.ite (LkP.ret h_z) (LkP.ite (LkP.xc (lkp_fn_X18_findAccount K h_z g_h0) (fun z_5 r_6 h_z_5 => (LkP.ite (lkp_fn_X18_mint_B66 K h_z_5 g_h0) (LkP.xc (lkp_fn_X18_placeCount K h_z_5 g_h0) (fun z_23 r_24 h_z_23 => (LkP.ite (LkP.ret h_z_23) (lkp_fn_X18_mint_B66 K h_z_23 g_h0))))))) (LkP.ret h_z)))))
theorem lkp_fn_X18_keepOne_L84 {F : Nat} {sh : Nat → Nat × Nat} {n : Nat} {rec : St → Nat → Int32 → Option (St × Unit)} {h0 : Nat} (K : Kp Q G) (g_h0 : G h0) (hko_rec : ∀ (w0 : St) (w1 : Nat) (w2 : Int32), Q w0 → G w1 → LkP Q (rec w0 w1 w2)) : ∀ (f : Nat) (v1 : St) (v2 : Int32), Q v1 → LkP Q (fn_X18_keepOne_L84 F sh n rec h0 f v1 v2) := by
  intro f
  induction f with
  | zero => intros; exact LkP.none
  | succ f_45 ih =>
    intro z_44 p_43 h_z_44
    exact (LkP.ite (LkP.ret h_z_44) (LkP.xc (hko_rec _ _ _ h_z_44 g_h0) (fun z_47 _ h_z_47 => (LkP.xl (fun k_49 q => have g_k_49 := K.2.2.2.2.2 _ _ _ _ h_z_47 g_h0 q; (LkP.xg (LkP.xl (fun k_51 q => have g_k_51 := K.2.2.2.2.2 _ _ _ _ h_z_47 g_k_49 q; (LkP.xg (LkP.ltv (fun v_53 => (ih _ _ h_z_47 ))))))))))))
theorem lkp_fn_X18_keepOne {F : Nat} {sh : Nat → Nat × Nat} {n : Nat} (K : Kp Q G)  : ∀ (f : Nat) (v1 : St) (v2 : Nat) (v3 : Int32), Q v1 → G v2 → LkP Q (fn_X18_keepOne F sh n f v1 v2 v3) := by
  intro f
  induction f with
  | zero => intros; exact LkP.none
  | succ d ih =>
    intro z h0 x0 h_z g_h0
    exact (LkP.xg (LkP.ltv (fun v_2 => (LkP.lts (K.1 _ _ _ _ h_z g_h0) (fun z_4 h_z_4 => (LkP.xl (fun k_5 q => have g_k_5 := K.2.2.2.2.2 _ _ _ _ h_z_4 g_h0 q; (LkP.xl (fun k_6 q => have g_k_6 := K.2.2.2.2.2 _ _ _ _ h_z_4 g_h0 q; (LkP.xg (LkP.xl (fun k_8 q => have g_k_8 := K.2.2.2.2.2 _ _ _ _ h_z_4 g_k_6 q; (LkP.xg (LkP.xg (LkP.lts (K.1 _ _ _ _ h_z_4 g_k_5) (fun z_12 h_z_12 => (LkP.xl (fun k_13 q => have g_k_13 := K.2.2.2.2.2 _ _ _ _ h_z_12 g_h0 q; (LkP.xl (fun k_14 q => have g_k_14 := K.2.2.2.2.2 _ _ _ _ h_z_12 g_h0 q; (LkP.xg (LkP.xl (fun k_16 q => have g_k_16 := K.2.2.2.2.2 _ _ _ _ h_z_12 g_k_14 q; (LkP.xg (LkP.xg (LkP.lts (K.2.1 _ _ _ _ h_z_12 g_k_13) (fun z_20 h_z_20 => (LkP.xl (fun k_21 q => have g_k_21 := K.2.2.2.2.2 _ _ _ _ h_z_20 g_h0 q; (LkP.xl (fun k_22 q => have g_k_22 := K.2.2.2.2.2 _ _ _ _ h_z_20 g_h0 q; (LkP.xg (LkP.xl (fun k_24 q => have g_k_24 := K.2.2.2.2.2 _ _ _ _ h_z_20 g_k_22 q; (LkP.xg (LkP.xg (LkP.lts (K.2.1 _ _ _ _ h_z_20 g_k_21) (fun z_28 h_z_28 => (LkP.xl (fun k_29 q => have g_k_29 := K.2.2.2.2.2 _ _ _ _ h_z_28 g_h0 q; (LkP.xl (fun k_30 q => have g_k_30 := K.2.2.2.2.2 _ _ _ _ h_z_28 g_h0 q; (LkP.xg (LkP.xc (lkp_fn_X15_count K h_z_28 g_k_30) (fun z_31 r_32 h_z_31 => (LkP.xg (LkP.lts (K.1 _ _ _ _ h_z_31 g_k_29) (fun z_37 h_z_37 => (LkP.xl (fun k_38 q => have g_k_38 := K.2.2.2.2.2 _ _ _ _ h_z_37 g_h0 q; (LkP.xg (LkP.xl (fun k_40 q => have g_k_40 := K.2.2.2.2.2 _ _ _ _ h_z_37 g_k_38 q; (LkP.xg (LkP.ltv (fun v_42 => (lkp_fn_X18_keepOne_L84 K g_h0 (fun w0 w1 w2 hw gw1 => ih w0 w1 w2 hw gw1) _ _ _ h_z_37 )))))))))))))))))))))))))))))))))))))))))))))))))))))))))
theorem lkp_fn_X1_loadNode_B18 {F : Nat} {sh : Nat → Nat × Nat} {n : Nat} {h0 : Nat} {z_5 : St} (K : Kp Q G) (h_z_5 : Q z_5) (g_h0 : G h0) : LkP Q (fn_X1_loadNode_B18 F sh n h0 z_5) := by
  unfold fn_X1_loadNode_B18
  exact (LkP.lts (K.1 _ _ _ _ h_z_5 g_h0) (fun z_7 h_z_7 => (LkP.ret h_z_7)))
theorem lkp_fn_X1_loadNode_L97 {F : Nat} {sh : Nat → Nat × Nat} {n : Nat} {r_17 : Int32} {r_24 : Int32} {v_15 : Int64} {rec : St → Nat → Nat → Int32 → Option (St × Int32)} {h0 : Nat} {x0 : Nat} {x1 : Int32} (K : Kp Q G) (g_h0 : G h0) (g_x0 : G x0) (hko_rec : ∀ (w0 : St) (w1 : Nat) (w2 : Nat) (w3 : Int32), Q w0 → G w1 → G w2 → LkP Q (rec w0 w1 w2 w3)) : ∀ (f : Nat) (v1 : St) (v2 : Int32), Q v1 → LkP Q (fn_X1_loadNode_L97 F sh n r_17 r_24 v_15 rec h0 x0 x1 f v1 v2) := by
  intro f
  induction f with
  | zero => intros; exact LkP.none
  | succ f_30 ih =>
    intro z_29 p_28 h_z_29
    exact (LkP.ite (LkP.ret h_z_29) (LkP.ite (LkP.ret h_z_29) (LkP.xc (hko_rec _ _ _ _ h_z_29 g_h0 g_x0) (fun z_33 r_34 h_z_33 => (LkP.xc (lkp_fn_X1_prepend K h_z_33 g_h0) (fun z_36 _ h_z_36 => (ih _ _ h_z_36 )))))))
theorem lkp_fn_X1_loadNode_B70 {F : Nat} {sh : Nat → Nat × Nat} {n : Nat} {x0 : Nat} {h0 : Nat} {v_12 : Int32} {r_17 : Int32} {v_15 : Int64} {rec : St → Nat → Nat → Int32 → Option (St × Int32)} {x1 : Int32} {z_20 : St} {p_19 : Int64} (K : Kp Q G) (h_z_20 : Q z_20) (g_x0 : G x0) (g_h0 : G h0) (hko_rec : ∀ (w0 : St) (w1 : Nat) (w2 : Nat) (w3 : Int32), Q w0 → G w1 → G w2 → LkP Q (rec w0 w1 w2 w3)) : LkP Q (fn_X1_loadNode_B70 F sh n x0 h0 v_12 r_17 v_15 rec x1 z_20 p_19) := by
  unfold fn_X1_loadNode_B70
  exact (LkP.xl (fun k_21 q => have g_k_21 := K.2.2.2.2.2 _ _ _ _ h_z_20 g_x0 q; (LkP.xg (LkP.xc (lkp_fn_X1_make K h_z_20 g_h0) (fun z_23 r_24 h_z_23 => (LkP.lts (K.1 _ _ _ _ h_z_23 g_h0) (fun z_27 h_z_27 => (lkp_fn_X1_loadNode_L97 K g_h0 g_x0 hko_rec _ _ _ h_z_27 ))))))))
theorem lkp_fn_X1_loadNode {F : Nat} {sh : Nat → Nat × Nat} {n : Nat} (K : Kp Q G)  : ∀ (f : Nat) (v1 : St) (v2 : Nat) (v3 : Nat) (v4 : Int32), Q v1 → G v2 → G v3 → LkP Q (fn_X1_loadNode F sh n f v1 v2 v3 v4) := by
  intro f
  induction f with
  | zero => intros; exact LkP.none
  | succ d ih =>
    intro z h0 x0 x1 h_z g_h0 g_x0
    exact (LkP.xg (LkP.xg (LkP.xl (fun k_3 q => have g_k_3 := K.2.2.2.2.2 _ _ _ _ h_z g_x0 q; (LkP.xg (LkP.ite (lkp_fn_X1_loadNode_B18 K h_z g_h0) (LkP.ite (LkP.xl (fun k_10 q => have g_k_10 := K.2.2.2.2.2 _ _ _ _ h_z g_x0 q; (LkP.xg (LkP.ltv (fun v_12 => (LkP.xl (fun k_13 q => have g_k_13 := K.2.2.2.2.2 _ _ _ _ h_z g_x0 q; (LkP.xg (LkP.ltv (fun v_15 => (LkP.xc (lkp_fn_X1_holdsOthers K h_z) (fun z_16 r_17 h_z_16 => (LkP.ite (lkp_fn_X1_loadNode_B70 K h_z_16 g_x0 g_h0 (fun w0 w1 w2 w3 hw gw1 gw2 => ih w0 w1 w2 w3 hw gw1 gw2)) (lkp_fn_X1_loadNode_B70 K h_z_16 g_x0 g_h0 (fun w0 w1 w2 w3 hw gw1 gw2 => ih w0 w1 w2 w3 hw gw1 gw2))))))))))))))) (lkp_fn_X1_loadNode_B18 K h_z g_h0))))))))
theorem lkp_fn_X7_writeBytes_B108 {F : Nat} {sh : Nat → Nat × Nat} {n : Nat} {x1 : Nat} {p_22 : Int32} {p_23 : Int32} {ko84 : St → Int32 → Int32 → Option (St × Int32)} {z_28 : St} {p_27 : Int64} (K : Kp Q G) (h_z_28 : Q z_28) (g_x1 : G x1) (hko_ko84 : ∀ (w0 : St) (w1 : Int32) (w2 : Int32), Q w0 → LkP Q (ko84 w0 w1 w2)) : LkP Q (fn_X7_writeBytes_B108 F sh n x1 p_22 p_23 ko84 z_28 p_27) := by
  unfold fn_X7_writeBytes_B108
  exact (LkP.xg (LkP.lts (K.1 _ _ _ _ h_z_28 g_x1) (fun z_31 h_z_31 => (hko_ko84 _ _ _ h_z_31 ))))
theorem lkp_fn_X7_writeBytes_L84 {F : Nat} {sh : Nat → Nat × Nat} {n : Nat} {p_3 : Int32} {x1 : Nat} {p_12 : Int64} {h0 : Nat} {ko8 : St → Int32 → Int32 → Option (St × Int32)} (K : Kp Q G) (g_x1 : G x1) (g_h0 : G h0) (hko_ko8 : ∀ (w0 : St) (w1 : Int32) (w2 : Int32), Q w0 → LkP Q (ko8 w0 w1 w2)) : ∀ (f : Nat) (v1 : St) (v2 : Int32) (v3 : Int32), Q v1 → LkP Q (fn_X7_writeBytes_L84 F sh n p_3 x1 p_12 h0 ko8 f v1 v2 v3) := by
  intro f
  induction f with
  | zero => intros; exact LkP.none
  | succ f_25 ih =>
    intro z_24 p_22 p_23 h_z_24
    exact (LkP.ite (hko_ko8 _ _ _ h_z_24 ) (LkP.ite (lkp_fn_X7_writeBytes_B108 K h_z_24 g_x1 (fun z9 q3 q8 hk_z9 => (ih _ _ _ hk_z9 ))) (LkP.xl (fun k_33 q => have g_k_33 := K.2.2.2.2.2 _ _ _ _ h_z_24 g_h0 q; (LkP.xg (lkp_fn_X7_writeBytes_B108 K h_z_24 g_x1 (fun z9 q3 q8 hk_z9 => (ih _ _ _ hk_z9 ))))))))
theorem lkp_fn_X7_writeBytes_B53 {F : Nat} {sh : Nat → Nat × Nat} {n : Nat} {h0 : Nat} {p_3 : Int32} {x1 : Nat} {p_2 : Int32} {ko8 : St → Int32 → Int32 → Option (St × Int32)} {z_13 : St} {p_12 : Int64} (K : Kp Q G) (h_z_13 : Q z_13) (g_h0 : G h0) (g_x1 : G x1) (hko_ko8 : ∀ (w0 : St) (w1 : Int32) (w2 : Int32), Q w0 → LkP Q (ko8 w0 w1 w2)) : LkP Q (fn_X7_writeBytes_B53 F sh n h0 p_3 x1 p_2 ko8 z_13 p_12) := by
  unfold fn_X7_writeBytes_B53
  exact (LkP.xl (fun k_14 q => have g_k_14 := K.2.2.2.2.2 _ _ _ _ h_z_13 g_h0 q; (LkP.xg (LkP.xc (lkp_fn_X7_widthOf K h_z_13) (fun z_16 r_17 h_z_16 => (LkP.xg (LkP.ite (LkP.ltv (fun v_21 => (lkp_fn_X7_writeBytes_L84 K g_x1 g_h0 (fun z9 q3 q4 hk_z9 => (hko_ko8 _ _ _ hk_z9 )) _ _ _ _ h_z_16 ))) (LkP.ret h_z_16))))))))
theorem lkp_fn_X7_writeBytes_L8 {F : Nat} {sh : Nat → Nat × Nat} {n : Nat} {h0 : Nat} {x0 : Int32} {x1 : Nat} (K : Kp Q G) (g_h0 : G h0) (g_x1 : G x1) : ∀ (f : Nat) (v1 : St) (v2 : Int32) (v3 : Int32), Q v1 → LkP Q (fn_X7_writeBytes_L8 F sh n h0 x0 x1 f v1 v2 v3) := by
  intro f
  induction f with
  | zero => intros; exact LkP.none
  | succ f_5 ih =>
    intro z_4 p_2 p_3 h_z_4
    exact (LkP.xg (LkP.xl (fun k_7 q => have g_k_7 := K.2.2.2.2.2 _ _ _ _ h_z_4 g_h0 q; (LkP.xg (LkP.ite (LkP.ret h_z_4) (LkP.xl (fun k_10 q => have g_k_10 := K.2.2.2.2.2 _ _ _ _ h_z_4 g_h0 q; (LkP.xg (LkP.ite (LkP.xl (fun k_38 q => have g_k_38 := K.2.2.2.2.2 _ _ _ _ h_z_4 g_h0 q; (LkP.xg (lkp_fn_X7_writeBytes_B53 K h_z_4 g_h0 g_x1 (fun z9 q3 q4 hk_z9 => (ih _ _ _ hk_z9 )))))) (LkP.xl (fun k_36 q => have g_k_36 := K.2.2.2.2.2 _ _ _ _ h_z_4 g_h0 q; (LkP.xg (lkp_fn_X7_writeBytes_B53 K h_z_4 g_h0 g_x1 (fun z9 q3 q4 hk_z9 => (ih _ _ _ hk_z9 )))))))))))))))
theorem lkp_fn_X7_writeBytes {F : Nat} {sh : Nat → Nat × Nat} {n : Nat} {z : St} {h0 : Nat} {x0 : Int32} {x1 : Nat} (K : Kp Q G) (h_z : Q z) (g_h0 : G h0) (g_x1 : G x1) : LkP Q (fn_X7_writeBytes F sh n z h0 x0 x1) := by
  unfold fn_X7_writeBytes
  exact (LkP.ltv (fun v_1 => (lkp_fn_X7_writeBytes_L8 K g_h0 g_x1 _ _ _ _ h_z )))
theorem lkp_fn_X1_copyAt_B123 {F : Nat} {sh : Nat → Nat × Nat} {n : Nat} {h0 : Nat} {p_26 : Int32} {p_28 : Int64} {r_36 : Int32} {ko69 : St → Int32 → Int32 → Int64 → Option (St × Int32)} {z_38 : St} (K : Kp Q G) (h_z_38 : Q z_38) (g_h0 : G h0) (hko_ko69 : ∀ (w0 : St) (w1 : Int32) (w2 : Int32) (w3 : Int64), Q w0 → LkP Q (ko69 w0 w1 w2 w3)) : LkP Q (fn_X1_copyAt_B123 F sh n h0 p_26 p_28 r_36 ko69 z_38) := by
  unfold fn_X1_copyAt_B123
  exact (LkP.xl (fun k_39 q => have g_k_39 := K.2.2.2.2.2 _ _ _ _ h_z_38 g_h0 q; (LkP.xg (LkP.ltv (fun v_41 => (LkP.ltv (fun v_42 => (hko_ko69 _ _ _ _ h_z_38 ))))))))
theorem lkp_fn_X1_copyAt_L69 {F : Nat} {sh : Nat → Nat × Nat} {n : Nat} {h0 : Nat} {x0 : Int32} {r_9 : Int32} {rec : St → Nat → Int32 → Int32 → Option (St × Int32)} {x1 : Int32} (K : Kp Q G) (g_h0 : G h0) (hko_rec : ∀ (w0 : St) (w1 : Nat) (w2 : Int32) (w3 : Int32), Q w0 → G w1 → LkP Q (rec w0 w1 w2 w3)) : ∀ (f : Nat) (v1 : St) (v2 : Int32) (v3 : Int32) (v4 : Int64), Q v1 → LkP Q (fn_X1_copyAt_L69 F sh n h0 x0 r_9 rec x1 f v1 v2 v3 v4) := by
  intro f
  induction f with
  | zero => intros; exact LkP.none
  | succ f_30 ih =>
    intro z_29 p_26 p_27 p_28 h_z_29
    exact (LkP.xl (fun k_31 q => have g_k_31 := K.2.2.2.2.2 _ _ _ _ h_z_29 g_h0 q; (LkP.xg (LkP.ite (LkP.ret h_z_29) (LkP.ite (LkP.ret h_z_29) (LkP.xc (hko_rec _ _ _ _ h_z_29 g_h0) (fun z_35 r_36 h_z_35 => (LkP.ite (LkP.xl (fun k_48 q => have g_k_48 := K.2.2.2.2.2 _ _ _ _ h_z_35 g_h0 q; (LkP.xg (LkP.lts (K.2.1 _ _ _ _ h_z_35 g_k_48) (fun z_51 h_z_51 => (lkp_fn_X1_copyAt_B123 K h_z_51 g_h0 (fun z9 q4 q5 q6 hk_z9 => (ih _ _ _ _ hk_z9 )))))))) (LkP.xl (fun k_44 q => have g_k_44 := K.2.2.2.2.2 _ _ _ _ h_z_35 g_h0 q; (LkP.xg (LkP.lts (K.1 _ _ _ _ h_z_35 g_k_44) (fun z_47 h_z_47 => (lkp_fn_X1_copyAt_B123 K h_z_47 g_h0 (fun z9 q4 q5 q6 hk_z9 => (ih _ _ _ _ hk_z9 ))))))))))))))))
theorem lkp_fn_X1_copyAt {F : Nat} {sh : Nat → Nat × Nat} {n : Nat} (K : Kp Q G)  : ∀ (f : Nat) (v1 : St) (v2 : Nat) (v3 : Int32) (v4 : Int32), Q v1 → G v2 → LkP Q (fn_X1_copyAt F sh n f v1 v2 v3 v4) := by
  intro f
  induction f with
  | zero => intros; exact LkP.none
  | succ d ih =>
    intro z h0 x0 x1 h_z g_h0
    exact (LkP.xg (LkP.xl (fun k_2 q => have g_k_2 := K.2.2.2.2.2 _ _ _ _ h_z g_h0 q; (LkP.xg (LkP.xl (fun k_4 q => have g_k_4 := K.2.2.2.2.2 _ _ _ _ h_z g_h0 q; (LkP.xg (LkP.xl (fun k_6 q => have g_k_6 := K.2.2.2.2.2 _ _ _ _ h_z g_h0 q; (LkP.xg (LkP.xc (lkp_fn_X1_make K h_z g_h0) (fun z_8 r_9 h_z_8 => (LkP.ite (LkP.ret h_z_8) (LkP.xl (fun k_12 q => have g_k_12 := K.2.2.2.2.2 _ _ _ _ h_z_8 g_h0 q; (LkP.xg (LkP.xc (lkp_fn_X1_holdsOthers K h_z_8) (fun z_14 r_15 h_z_14 => (LkP.ite (LkP.ret h_z_14) (LkP.ite (LkP.xl (fun k_19 q => have g_k_19 := K.2.2.2.2.2 _ _ _ _ h_z_14 g_h0 q; (LkP.xg (LkP.ltv (fun v_21 => (LkP.xl (fun k_22 q => have g_k_22 := K.2.2.2.2.2 _ _ _ _ h_z_14 g_h0 q; (LkP.xg (LkP.lts (K.2.1 _ _ _ _ h_z_14 g_k_22) (fun z_25 h_z_25 => (lkp_fn_X1_copyAt_L69 K g_h0 (fun w0 w1 w2 w3 hw gw1 => ih w0 w1 w2 w3 hw gw1) _ _ _ _ _ h_z_25 ))))))))))) (LkP.ret h_z_14)))))))))))))))))))))
theorem lkp_fn_X18_enter_L71 {F : Nat} {sh : Nat → Nat × Nat} {n : Nat} {x2 : Int32} {h0 : Nat} {v_2 : Int32} (K : Kp Q G) (g_h0 : G h0) : ∀ (f : Nat) (v1 : St) (v2 : Int32), Q v1 → LkP Q (fn_X18_enter_L71 F sh n x2 h0 v_2 f v1 v2) := by
  intro f
  induction f with
  | zero => intros; exact LkP.none
  | succ f_23 ih =>
    intro z_22 p_21 h_z_22
    exact (LkP.ite (LkP.lts (K.1 _ _ _ _ h_z_22 g_h0) (fun z_26 h_z_26 => (LkP.xl (fun k_27 q => have g_k_27 := K.2.2.2.2.2 _ _ _ _ h_z_26 g_h0 q; (LkP.xg (LkP.lts (K.1 _ _ _ _ h_z_26 g_k_27) (fun z_30 h_z_30 => (LkP.ret h_z_30)))))))) (LkP.xl (fun k_31 q => have g_k_31 := K.2.2.2.2.2 _ _ _ _ h_z_22 g_h0 q; (LkP.xc (lkp_fn_X18_local K h_z_22 g_h0) (fun z_32 r_33 h_z_32 => (LkP.xl (fun k_35 q => have g_k_35 := K.2.2.2.2.2 _ _ _ _ h_z_32 g_h0 q; (LkP.xg (LkP.xg (LkP.lts (K.1 _ _ _ _ h_z_32 g_k_31) (fun z_39 h_z_39 => (LkP.xl (fun k_40 q => have g_k_40 := K.2.2.2.2.2 _ _ _ _ h_z_39 g_h0 q; (LkP.xc (lkp_fn_X18_local K h_z_39 g_h0) (fun z_41 r_42 h_z_41 => (LkP.xl (fun k_44 q => have g_k_44 := K.2.2.2.2.2 _ _ _ _ h_z_41 g_h0 q; (LkP.xg (LkP.xg (LkP.lts (K.1 _ _ _ _ h_z_41 g_k_40) (fun z_48 h_z_48 => (ih _ _ h_z_48 ))))))))))))))))))))))
theorem lkp_fn_X18_enter_L43 {F : Nat} {sh : Nat → Nat × Nat} {n : Nat} {x2 : Int32} {h0 : Nat} {v_2 : Int32} (K : Kp Q G) (g_h0 : G h0) : ∀ (f : Nat) (v1 : St) (v2 : Int32), Q v1 → LkP Q (fn_X18_enter_L43 F sh n x2 h0 v_2 f v1 v2) := by
  intro f
  induction f with
  | zero => intros; exact LkP.none
  | succ f_19 ih =>
    intro z_18 p_17 h_z_18
    exact (LkP.ite (lkp_fn_X18_enter_L71 K g_h0 _ _ _ h_z_18 ) (LkP.xl (fun k_49 q => have g_k_49 := K.2.2.2.2.2 _ _ _ _ h_z_18 g_h0 q; (LkP.xc (lkp_fn_X18_local K h_z_18 g_h0) (fun z_50 r_51 h_z_50 => (LkP.xg (LkP.lts (K.1 _ _ _ _ h_z_50 g_k_49) (fun z_55 h_z_55 => (ih _ _ h_z_55 )))))))))
theorem lkp_fn_X18_enter {F : Nat} {sh : Nat → Nat × Nat} {n : Nat} {z : St} {h0 : Nat} {x0 : Int32} {x1 : Int32} {x2 : Int32} (K : Kp Q G) (h_z : Q z) (g_h0 : G h0) : LkP Q (fn_X18_enter F sh n z h0 x0 x1 x2) := by
  unfold fn_X18_enter
  exact (LkP.xg (LkP.ltv (fun v_2 => (LkP.lts (K.1 _ _ _ _ h_z g_h0) (fun z_4 h_z_4 => (LkP.xl (fun k_5 q => have g_k_5 := K.2.2.2.2.2 _ _ _ _ h_z_4 g_h0 q; (LkP.xg (LkP.lts (K.1 _ _ _ _ h_z_4 g_k_5) (fun z_8 h_z_8 => (LkP.xl (fun k_9 q => have g_k_9 := K.2.2.2.2.2 _ _ _ _ h_z_8 g_h0 q; (LkP.xg (LkP.lts (K.1 _ _ _ _ h_z_8 g_k_9) (fun z_12 h_z_12 => (LkP.xl (fun k_13 q => have g_k_13 := K.2.2.2.2.2 _ _ _ _ h_z_12 g_h0 q; (LkP.xg (LkP.lts (K.1 _ _ _ _ h_z_12 g_k_13) (fun z_16 h_z_16 => (lkp_fn_X18_enter_L43 K g_h0 _ _ _ h_z_16 )))))))))))))))))))))
theorem lkp_fn_X10_multiply_B111 {F : Nat} {sh : Nat → Nat × Nat} {n : Nat} {v_5 : Int64} {x1 : Int64} {h0 : Nat} {z_8 : St} {p_6 : Int32} {p_7 : Int64} (K : Kp Q G) (h_z_8 : Q z_8) (g_h0 : G h0) : LkP Q (fn_X10_multiply_B111 F sh n v_5 x1 h0 z_8 p_6 p_7) := by
  unfold fn_X10_multiply_B111
  exact (LkP.xc (lkp_fn_X10_upperProduct K h_z_8) (fun z_9 r_10 h_z_9 => (LkP.lts (K.2.1 _ _ _ _ h_z_9 g_h0) (fun z_13 h_z_13 => (LkP.lts (K.2.1 _ _ _ _ h_z_13 g_h0) (fun z_15 h_z_15 => (LkP.ite (LkP.xc (lkp_fn_X10_below K h_z_15) (fun z_19 r_20 h_z_19 => (LkP.ite (LkP.lts (K.1 _ _ _ _ h_z_19 g_h0) (fun z_24 h_z_24 => (LkP.ret h_z_24))) (LkP.lts (K.1 _ _ _ _ h_z_19 g_h0) (fun z_26 h_z_26 => (LkP.ret h_z_26)))))) (LkP.lts (K.1 _ _ _ _ h_z_15 g_h0) (fun z_18 h_z_18 => (LkP.ret h_z_18))))))))))
theorem lkp_fn_X10_multiply_B103 {F : Nat} {sh : Nat → Nat × Nat} {n : Nat} {v_5 : Int64} {x0 : Int64} {x1 : Int64} {h0 : Nat} {z_30 : St} {p_29 : Int32} (K : Kp Q G) (h_z_30 : Q z_30) (g_h0 : G h0) : LkP Q (fn_X10_multiply_B103 F sh n v_5 x0 x1 h0 z_30 p_29) := by
  unfold fn_X10_multiply_B103
  exact (LkP.ltv (fun v_31 => (lkp_fn_X10_multiply_B111 K h_z_30 g_h0)))
theorem lkp_fn_X10_multiply_B98 {F : Nat} {sh : Nat → Nat × Nat} {n : Nat} {v_5 : Int64} {x0 : Int64} {x1 : Int64} {h0 : Nat} {z_32 : St} (K : Kp Q G) (h_z_32 : Q z_32) (g_h0 : G h0) : LkP Q (fn_X10_multiply_B98 F sh n v_5 x0 x1 h0 z_32) := by
  unfold fn_X10_multiply_B98
  exact (lkp_fn_X10_multiply_B103 K h_z_32 g_h0)
theorem lkp_fn_X10_multiply_B65 {F : Nat} {sh : Nat → Nat × Nat} {n : Nat} {v_4 : Int64} {x1 : Int64} {v_5 : Int64} {h0 : Nat} {z_39 : St} {p_38 : Int32} (K : Kp Q G) (h_z_39 : Q z_39) (g_h0 : G h0) : LkP Q (fn_X10_multiply_B65 F sh n v_4 x1 v_5 h0 z_39 p_38) := by
  unfold fn_X10_multiply_B65
  exact (LkP.ltv (fun v_40 => (lkp_fn_X10_multiply_B111 K h_z_39 g_h0)))
theorem lkp_fn_X10_multiply_B60 {F : Nat} {sh : Nat → Nat × Nat} {n : Nat} {v_4 : Int64} {x1 : Int64} {v_5 : Int64} {h0 : Nat} {z_41 : St} (K : Kp Q G) (h_z_41 : Q z_41) (g_h0 : G h0) : LkP Q (fn_X10_multiply_B60 F sh n v_4 x1 v_5 h0 z_41) := by
  unfold fn_X10_multiply_B60
  exact (lkp_fn_X10_multiply_B65 K h_z_41 g_h0)
theorem lkp_fn_X10_multiply_B20 {F : Nat} {sh : Nat → Nat × Nat} {n : Nat} {h0 : Nat} {x0 : Int64} {x1 : Int64} {z_3 : St} {p_2 : Int32} (K : Kp Q G) (h_z_3 : Q z_3) (g_h0 : G h0) : LkP Q (fn_X10_multiply_B20 F sh n h0 x0 x1 z_3 p_2) := by
  unfold fn_X10_multiply_B20
  exact (LkP.ltv (fun v_4 => (LkP.ltv (fun v_5 => (LkP.ite (LkP.ite (lkp_fn_X10_multiply_B111 K h_z_3 g_h0) (LkP.ite (LkP.xc (lkp_fn_X10_upperProduct K h_z_3) (fun z_34 r_35 h_z_34 => (LkP.ite (lkp_fn_X10_multiply_B103 K h_z_34 g_h0) (lkp_fn_X10_multiply_B98 K h_z_34 g_h0)))) (lkp_fn_X10_multiply_B98 K h_z_3 g_h0))) (LkP.ite (LkP.xc (lkp_fn_X10_upperProduct K h_z_3) (fun z_43 r_44 h_z_43 => (LkP.ite (lkp_fn_X10_multiply_B65 K h_z_43 g_h0) (lkp_fn_X10_multiply_B60 K h_z_43 g_h0)))) (lkp_fn_X10_multiply_B60 K h_z_3 g_h0)))))))
theorem lkp_fn_X10_multiply_B19 {F : Nat} {sh : Nat → Nat × Nat} {n : Nat} {h0 : Nat} {x0 : Int64} {x1 : Int64} {z_47 : St} (K : Kp Q G) (h_z_47 : Q z_47) (g_h0 : G h0) : LkP Q (fn_X10_multiply_B19 F sh n h0 x0 x1 z_47) := by
  unfold fn_X10_multiply_B19
  exact (lkp_fn_X10_multiply_B20 K h_z_47 g_h0)
theorem lkp_fn_X10_multiply {F : Nat} {sh : Nat → Nat × Nat} {n : Nat} {z : St} {h0 : Nat} {x0 : Int64} {x1 : Int64} (K : Kp Q G) (h_z : Q z) (g_h0 : G h0) : LkP Q (fn_X10_multiply F sh n z h0 x0 x1) := by
  unfold fn_X10_multiply
  exact (LkP.xg (LkP.ite (lkp_fn_X10_multiply_B19 K h_z g_h0) (LkP.ite (lkp_fn_X10_multiply_B19 K h_z g_h0) (lkp_fn_X10_multiply_B20 K h_z g_h0))))
theorem lkp_fn_X6_readOneType_B111 {F : Nat} {sh : Nat → Nat × Nat} {n : Nat} {p_16 : Int64} {p_18 : Int32} {h0 : Nat} {z_20 : St} (K : Kp Q G) (h_z_20 : Q z_20) (g_h0 : G h0) : LkP Q (fn_X6_readOneType_B111 F sh n p_16 p_18 h0 z_20) := by
  unfold fn_X6_readOneType_B111
  exact (LkP.ltv (fun v_21 => (LkP.ite (LkP.ltv (fun v_23 => (LkP.xc (lkp_fn_X6_readByte K h_z_20 g_h0) (fun z_24 r_25 h_z_24 => (LkP.ite (LkP.ret h_z_24) (LkP.xl (fun k_28 q => have g_k_28 := K.2.2.2.2.2 _ _ _ _ h_z_24 g_h0 q; (LkP.xg (LkP.ite (LkP.ret h_z_24) (LkP.xc (lkp_fn_X6_fail K h_z_24 g_h0) (fun z_31 _ h_z_31 => (LkP.ret h_z_31)))))))))))) (LkP.ret h_z_20))))
theorem lkp_fn_X6_readOneType_B104 {F : Nat} {sh : Nat → Nat × Nat} {n : Nat} {h0 : Nat} {p_17 : Int32} {p_16 : Int64} {p_18 : Int32} {z_33 : St} (K : Kp Q G) (h_z_33 : Q z_33) (g_h0 : G h0) : LkP Q (fn_X6_readOneType_B104 F sh n h0 p_17 p_16 p_18 z_33) := by
  unfold fn_X6_readOneType_B104
  exact (LkP.xc (lkp_fn_X6_fail K h_z_33 g_h0) (fun z_34 _ h_z_34 => (lkp_fn_X6_readOneType_B111 K h_z_34 g_h0)))
theorem lkp_fn_X6_readOneType_B91 {F : Nat} {sh : Nat → Nat × Nat} {n : Nat} {h0 : Nat} {z_19 : St} {p_16 : Int64} {p_17 : Int32} {p_18 : Int32} (K : Kp Q G) (h_z_19 : Q z_19) (g_h0 : G h0) : LkP Q (fn_X6_readOneType_B91 F sh n h0 z_19 p_16 p_17 p_18) := by
  unfold fn_X6_readOneType_B91
  exact (LkP.ite (lkp_fn_X6_readOneType_B104 K h_z_19 g_h0) (LkP.ite (lkp_fn_X6_readOneType_B111 K h_z_19 g_h0) (lkp_fn_X6_readOneType_B104 K h_z_19 g_h0)))
theorem lkp_fn_X6_readOneType_L51 {F : Nat} {sh : Nat → Nat × Nat} {n : Nat} {h0 : Nat} (K : Kp Q G) (g_h0 : G h0) : ∀ (f : Nat) (v1 : St) (v2 : Int64) (v3 : Int32) (v4 : Int32) (v5 : Int32), Q v1 → LkP Q (fn_X6_readOneType_L51 F sh n h0 f v1 v2 v3 v4 v5) := by
  intro f
  induction f with
  | zero => intros; exact LkP.none
  | succ f_15 ih =>
    intro z_14 p_10 p_11 p_12 p_13 h_z_14
    exact (LkP.ite (lkp_fn_X6_readOneType_B91 K h_z_14 g_h0) (LkP.ite (LkP.ltv (fun v_40 => (LkP.ltv (fun v_41 => (LkP.xc (lkp_fn_X6_readByte K h_z_14 g_h0) (fun z_42 r_43 h_z_42 => (ih _ _ _ _ _ h_z_42 ))))))) (lkp_fn_X6_readOneType_B91 K h_z_14 g_h0)))
theorem lkp_fn_X6_readOneType_B48 {F : Nat} {sh : Nat → Nat × Nat} {n : Nat} {h0 : Nat} {z_9 : St} {p_6 : Int64} {p_7 : Int32} {p_8 : Int32} (K : Kp Q G) (h_z_9 : Q z_9) (g_h0 : G h0) : LkP Q (fn_X6_readOneType_B48 F sh n h0 z_9 p_6 p_7 p_8) := by
  unfold fn_X6_readOneType_B48
  exact (lkp_fn_X6_readOneType_L51 K g_h0 _ _ _ _ _ _ h_z_9 )
theorem lkp_fn_X6_readOneType_B32 {F : Nat} {sh : Nat → Nat × Nat} {n : Nat} {r_4 : Int32} {h0 : Nat} {z_46 : St} (K : Kp Q G) (h_z_46 : Q z_46) (g_h0 : G h0) : LkP Q (fn_X6_readOneType_B32 F sh n r_4 h0 z_46) := by
  unfold fn_X6_readOneType_B32
  exact (LkP.ltv (fun v_47 => (LkP.ltv (fun v_48 => (LkP.xc (lkp_fn_X6_readByte K h_z_46 g_h0) (fun z_49 r_50 h_z_49 => (lkp_fn_X6_readOneType_B48 K h_z_49 g_h0)))))))
theorem lkp_fn_X6_readOneType {F : Nat} {sh : Nat → Nat × Nat} {n : Nat} {z : St} {h0 : Nat} {x0 : Int32} (K : Kp Q G) (h_z : Q z) (g_h0 : G h0) : LkP Q (fn_X6_readOneType F sh n z h0 x0) := by
  unfold fn_X6_readOneType
  exact (LkP.xg (LkP.ltv (fun v_2 => (LkP.xc (lkp_fn_X6_readByte K h_z g_h0) (fun z_3 r_4 h_z_3 => (LkP.ite (lkp_fn_X6_readOneType_B48 K h_z_3 g_h0) (LkP.ite (lkp_fn_X6_readOneType_B32 K h_z_3 g_h0) (LkP.ite (lkp_fn_X6_readOneType_B32 K h_z_3 g_h0) (lkp_fn_X6_readOneType_B48 K h_z_3 g_h0)))))))))
theorem lkp_fn_X1_alikeAt_L88 {F : Nat} {sh : Nat → Nat × Nat} {n : Nat} {h0 : Nat} {x0 : Int32} {x2 : Int32} {rec : St → Nat → Int32 → Int32 → Int32 → Option (St × Int32)} (K : Kp Q G) (g_h0 : G h0) (hko_rec : ∀ (w0 : St) (w1 : Nat) (w2 : Int32) (w3 : Int32) (w4 : Int32), Q w0 → G w1 → LkP Q (rec w0 w1 w2 w3 w4)) : ∀ (f : Nat) (v1 : St) (v2 : Int32) (v3 : Int32) (v4 : Int64), Q v1 → LkP Q (fn_X1_alikeAt_L88 F sh n h0 x0 x2 rec f v1 v2 v3 v4) := by
  intro f
  induction f with
  | zero => intros; exact LkP.none
  | succ f_28 ih =>
    intro z_27 p_24 p_25 p_26 h_z_27
    exact (LkP.xl (fun k_29 q => have g_k_29 := K.2.2.2.2.2 _ _ _ _ h_z_27 g_h0 q; (LkP.xg (LkP.ite (LkP.ret h_z_27) (LkP.ite (LkP.ret h_z_27) (LkP.ite (LkP.ret h_z_27) (LkP.ite (LkP.ret h_z_27) (LkP.xc (hko_rec _ _ _ _ _ h_z_27 g_h0) (fun z_35 r_36 h_z_35 => (LkP.ite (LkP.ret h_z_35) (LkP.xl (fun k_39 q => have g_k_39 := K.2.2.2.2.2 _ _ _ _ h_z_35 g_h0 q; (LkP.xg (LkP.ltv (fun v_41 => (LkP.xl (fun k_42 q => have g_k_42 := K.2.2.2.2.2 _ _ _ _ h_z_35 g_h0 q; (LkP.xg (LkP.ltv (fun v_44 => (LkP.ltv (fun v_45 => (ih _ _ _ _ h_z_35 )))))))))))))))))))))))
theorem lkp_fn_X1_alikeAt {F : Nat} {sh : Nat → Nat × Nat} {n : Nat} (K : Kp Q G)  : ∀ (f : Nat) (v1 : St) (v2 : Nat) (v3 : Int32) (v4 : Int32) (v5 : Int32), Q v1 → G v2 → LkP Q (fn_X1_alikeAt F sh n f v1 v2 v3 v4 v5) := by
  intro f
  induction f with
  | zero => intros; exact LkP.none
  | succ d ih =>
    intro z h0 x0 x1 x2 h_z g_h0
    exact (LkP.xg (LkP.xl (fun k_2 q => have g_k_2 := K.2.2.2.2.2 _ _ _ _ h_z g_h0 q; (LkP.xg (LkP.xl (fun k_4 q => have g_k_4 := K.2.2.2.2.2 _ _ _ _ h_z g_h0 q; (LkP.xg (LkP.ite (LkP.xl (fun k_7 q => have g_k_7 := K.2.2.2.2.2 _ _ _ _ h_z g_h0 q; (LkP.xg (LkP.xl (fun k_9 q => have g_k_9 := K.2.2.2.2.2 _ _ _ _ h_z g_h0 q; (LkP.xg (LkP.ite (LkP.xl (fun k_12 q => have g_k_12 := K.2.2.2.2.2 _ _ _ _ h_z g_h0 q; (LkP.xg (LkP.xc (lkp_fn_X1_holdsOthers K h_z) (fun z_14 r_15 h_z_14 => (LkP.ite (LkP.xl (fun k_46 q => have g_k_46 := K.2.2.2.2.2 _ _ _ _ h_z_14 g_h0 q; (LkP.xg (LkP.xl (fun k_48 q => have g_k_48 := K.2.2.2.2.2 _ _ _ _ h_z_14 g_h0 q; (LkP.xg (LkP.ite (LkP.ret h_z_14) (LkP.ret h_z_14)))))))) (LkP.xl (fun k_18 q => have g_k_18 := K.2.2.2.2.2 _ _ _ _ h_z_14 g_h0 q; (LkP.xg (LkP.ltv (fun v_20 => (LkP.xl (fun k_21 q => have g_k_21 := K.2.2.2.2.2 _ _ _ _ h_z_14 g_h0 q; (LkP.xg (LkP.ltv (fun v_23 => (lkp_fn_X1_alikeAt_L88 K g_h0 (fun w0 w1 w2 w3 w4 hw gw1 => ih w0 w1 w2 w3 w4 hw gw1) _ _ _ _ _ h_z_14 ))))))))))))))))) (LkP.ret h_z)))))))) (LkP.ret h_z)))))))))
theorem lkp_fn_X3_comeBack_B146 {F : Nat} {sh : Nat → Nat × Nat} {n : Nat} {p_7 : Int32} {ko84 : St → Int32 → Int32 → Option (St × Unit)} {z_19 : St} {p_18 : Int32} (K : Kp Q G) (h_z_19 : Q z_19) (hko_ko84 : ∀ (w0 : St) (w1 : Int32) (w2 : Int32), Q w0 → LkP Q (ko84 w0 w1 w2)) : LkP Q (fn_X3_comeBack_B146 F sh n p_7 ko84 z_19 p_18) := by
  unfold fn_X3_comeBack_B146
  exact (hko_ko84 _ _ _ h_z_19 )
theorem lkp_fn_X3_comeBack_B110 {F : Nat} {sh : Nat → Nat × Nat} {n : Nat} {p_7 : Int32} {p_6 : Int32} {h0 : Nat} {x0 : Int32} {ko84 : St → Int32 → Int32 → Option (St × Unit)} {z_17 : St} {p_16 : Int32} (K : Kp Q G) (h_z_17 : Q z_17) (g_h0 : G h0) (hko_ko84 : ∀ (w0 : St) (w1 : Int32) (w2 : Int32), Q w0 → LkP Q (ko84 w0 w1 w2)) : LkP Q (fn_X3_comeBack_B110 F sh n p_7 p_6 h0 x0 ko84 z_17 p_16) := by
  unfold fn_X3_comeBack_B110
  exact (LkP.ite (lkp_fn_X3_comeBack_B146 K h_z_17 (fun z9 q2 q3 hk_z9 => (hko_ko84 _ _ _ hk_z9 ))) (LkP.xl (fun k_21 q => have g_k_21 := K.2.2.2.2.2 _ _ _ _ h_z_17 g_h0 q; (LkP.xg (LkP.xl (fun k_23 q => have g_k_23 := K.2.2.2.2.2 _ _ _ _ h_z_17 g_h0 q; (LkP.xg (LkP.ite (lkp_fn_X3_comeBack_B146 K h_z_17 (fun z9 q2 q3 hk_z9 => (hko_ko84 _ _ _ hk_z9 ))) (lkp_fn_X3_comeBack_B146 K h_z_17 (fun z9 q2 q3 hk_z9 => (hko_ko84 _ _ _ hk_z9 )))))))))))
theorem lkp_fn_X3_comeBack_L84 {F : Nat} {sh : Nat → Nat × Nat} {n : Nat} {h0 : Nat} {x0 : Int32} (K : Kp Q G) (g_h0 : G h0) : ∀ (f : Nat) (v1 : St) (v2 : Int32) (v3 : Int32), Q v1 → LkP Q (fn_X3_comeBack_L84 F sh n h0 x0 f v1 v2 v3) := by
  intro f
  induction f with
  | zero => intros; exact LkP.none
  | succ f_9 ih =>
    intro z_8 p_6 p_7 h_z_8
    exact (LkP.ite (LkP.ite (LkP.xc (lkp_fn_X3_fail K h_z_8 g_h0) (fun z_12 _ h_z_12 => (LkP.ret h_z_12))) (LkP.ret h_z_8)) (LkP.xl (fun k_14 q => have g_k_14 := K.2.2.2.2.2 _ _ _ _ h_z_8 g_h0 q; (LkP.xg (LkP.ite (lkp_fn_X3_comeBack_B110 K h_z_8 g_h0 (fun z9 q2 q3 hk_z9 => (ih _ _ _ hk_z9 ))) (lkp_fn_X3_comeBack_B110 K h_z_8 g_h0 (fun z9 q2 q3 hk_z9 => (ih _ _ _ hk_z9 ))))))))
theorem lkp_fn_X3_comeBack_B81 {F : Nat} {sh : Nat → Nat × Nat} {n : Nat} {h0 : Nat} {x0 : Int32} {z_5 : St} {p_4 : Int32} (K : Kp Q G) (h_z_5 : Q z_5) (g_h0 : G h0) : LkP Q (fn_X3_comeBack_B81 F sh n h0 x0 z_5 p_4) := by
  unfold fn_X3_comeBack_B81
  exact (lkp_fn_X3_comeBack_L84 K g_h0 _ _ _ _ h_z_5 )
theorem lkp_fn_X3_comeBack_B80 {F : Nat} {sh : Nat → Nat × Nat} {n : Nat} {h0 : Nat} {x0 : Int32} {z_27 : St} (K : Kp Q G) (h_z_27 : Q z_27) (g_h0 : G h0) : LkP Q (fn_X3_comeBack_B80 F sh n h0 x0 z_27) := by
  unfold fn_X3_comeBack_B80
  exact (lkp_fn_X3_comeBack_B81 K h_z_27 g_h0)
theorem lkp_fn_X3_comeBack {F : Nat} {sh : Nat → Nat × Nat} {n : Nat} {z : St} {h0 : Nat} {x0 : Int32} (K : Kp Q G) (h_z : Q z) (g_h0 : G h0) : LkP Q (fn_X3_comeBack F sh n z h0 x0) := by
  unfold fn_X3_comeBack
  exact (LkP.xg (LkP.xl (fun k_2 q => have g_k_2 := K.2.2.2.2.2 _ _ _ _ h_z g_h0 q; (LkP.xg (LkP.ite (LkP.xl (fun k_29 q => have g_k_29 := K.2.2.2.2.2 _ _ _ _ h_z g_h0 q; (LkP.xg (LkP.ite (LkP.xl (fun k_32 q => have g_k_32 := K.2.2.2.2.2 _ _ _ _ h_z g_h0 q; (LkP.xg (LkP.xl (fun k_34 q => have g_k_34 := K.2.2.2.2.2 _ _ _ _ h_z g_h0 q; (LkP.xg (LkP.ite (lkp_fn_X3_comeBack_B81 K h_z g_h0) (lkp_fn_X3_comeBack_B80 K h_z g_h0)))))))) (lkp_fn_X3_comeBack_B80 K h_z g_h0))))) (lkp_fn_X3_comeBack_B80 K h_z g_h0))))))
theorem lkp_fn_X18_isTooMuch_B169 {F : Nat} {sh : Nat → Nat × Nat} {n : Nat} {p_3 : Int32} {ko6 : St → Int32 → Int32 → Int32 → Option (St × Int32)} {z_21 : St} {p_19 : Int32} {p_20 : Int32} (K : Kp Q G) (h_z_21 : Q z_21) (hko_ko6 : ∀ (w0 : St) (w1 : Int32) (w2 : Int32) (w3 : Int32), Q w0 → LkP Q (ko6 w0 w1 w2 w3)) : LkP Q (fn_X18_isTooMuch_B169 F sh n p_3 ko6 z_21 p_19 p_20) := by
  unfold fn_X18_isTooMuch_B169
  exact (hko_ko6 _ _ _ _ h_z_21 )
theorem lkp_fn_X18_isTooMuch_B168 {F : Nat} {sh : Nat → Nat × Nat} {n : Nat} {p_3 : Int32} {v_29 : Int32} {ko6 : St → Int32 → Int32 → Int32 → Option (St × Int32)} {z_31 : St} {p_30 : Int32} (K : Kp Q G) (h_z_31 : Q z_31) (hko_ko6 : ∀ (w0 : St) (w1 : Int32) (w2 : Int32) (w3 : Int32), Q w0 → LkP Q (ko6 w0 w1 w2 w3)) : LkP Q (fn_X18_isTooMuch_B168 F sh n p_3 v_29 ko6 z_31 p_30) := by
  unfold fn_X18_isTooMuch_B168
  exact (lkp_fn_X18_isTooMuch_B169 K h_z_31 (fun z9 q1 q2 q3 hk_z9 => (hko_ko6 _ _ _ _ hk_z9 )))
theorem lkp_fn_X18_isTooMuch_B163 {F : Nat} {sh : Nat → Nat × Nat} {n : Nat} {p_3 : Int32} {v_29 : Int32} {ko6 : St → Int32 → Int32 → Int32 → Option (St × Int32)} {z_32 : St} (K : Kp Q G) (h_z_32 : Q z_32) (hko_ko6 : ∀ (w0 : St) (w1 : Int32) (w2 : Int32) (w3 : Int32), Q w0 → LkP Q (ko6 w0 w1 w2 w3)) : LkP Q (fn_X18_isTooMuch_B163 F sh n p_3 v_29 ko6 z_32) := by
  unfold fn_X18_isTooMuch_B163
  exact (lkp_fn_X18_isTooMuch_B168 K h_z_32 (fun z9 q1 q2 q3 hk_z9 => (hko_ko6 _ _ _ _ hk_z9 )))
theorem lkp_fn_X18_isTooMuch_B167 {F : Nat} {sh : Nat → Nat × Nat} {n : Nat} {p_3 : Int32} {v_29 : Int32} {ko6 : St → Int32 → Int32 → Int32 → Option (St × Int32)} {z_36 : St} (K : Kp Q G) (h_z_36 : Q z_36) (hko_ko6 : ∀ (w0 : St) (w1 : Int32) (w2 : Int32) (w3 : Int32), Q w0 → LkP Q (ko6 w0 w1 w2 w3)) : LkP Q (fn_X18_isTooMuch_B167 F sh n p_3 v_29 ko6 z_36) := by
  unfold fn_X18_isTooMuch_B167
  exact (lkp_fn_X18_isTooMuch_B168 K h_z_36 (fun z9 q1 q2 q3 hk_z9 => (hko_ko6 _ _ _ _ hk_z9 )))
theorem lkp_fn_X18_isTooMuch_B119 {F : Nat} {sh : Nat → Nat × Nat} {n : Nat} {p_1 : Int32} {p_25 : Int32} {p_2 : Int32} {h0 : Nat} {p_3 : Int32} {ko6 : St → Int32 → Int32 → Int32 → Option (St × Int32)} {z_28 : St} {p_27 : Int32} (K : Kp Q G) (h_z_28 : Q z_28) (g_h0 : G h0) (hko_ko6 : ∀ (w0 : St) (w1 : Int32) (w2 : Int32) (w3 : Int32), Q w0 → LkP Q (ko6 w0 w1 w2 w3)) : LkP Q (fn_X18_isTooMuch_B119 F sh n p_1 p_25 p_2 h0 p_3 ko6 z_28 p_27) := by
  unfold fn_X18_isTooMuch_B119
  exact (LkP.ltv (fun v_29 => (LkP.ite (LkP.xl (fun k_34 q => have g_k_34 := K.2.2.2.2.2 _ _ _ _ h_z_28 g_h0 q; (LkP.xg (LkP.ite (LkP.xl (fun k_38 q => have g_k_38 := K.2.2.2.2.2 _ _ _ _ h_z_28 g_h0 q; (LkP.xg (LkP.ite (lkp_fn_X18_isTooMuch_B167 K h_z_28 (fun z9 q1 q2 q3 hk_z9 => (hko_ko6 _ _ _ _ hk_z9 ))) (LkP.xl (fun k_41 q => have g_k_41 := K.2.2.2.2.2 _ _ _ _ h_z_28 g_h0 q; (LkP.xl (fun k_42 q => have g_k_42 := K.2.2.2.2.2 _ _ _ _ h_z_28 g_h0 q; (LkP.xg (LkP.xg (LkP.xc (lkp_fn_X15_sizeOf K  _ _ _ _ h_z_28 g_k_41) (fun z_44 r_45 h_z_44 => (LkP.ite (lkp_fn_X18_isTooMuch_B167 K h_z_44 (fun z9 q1 q2 q3 hk_z9 => (hko_ko6 _ _ _ _ hk_z9 ))) (lkp_fn_X18_isTooMuch_B163 K h_z_44 (fun z9 q1 q2 q3 hk_z9 => (hko_ko6 _ _ _ _ hk_z9 )))))))))))))))) (lkp_fn_X18_isTooMuch_B167 K h_z_28 (fun z9 q1 q2 q3 hk_z9 => (hko_ko6 _ _ _ _ hk_z9 ))))))) (lkp_fn_X18_isTooMuch_B163 K h_z_28 (fun z9 q1 q2 q3 hk_z9 => (hko_ko6 _ _ _ _ hk_z9 ))))))
theorem lkp_fn_X18_isTooMuch_B109 {F : Nat} {sh : Nat → Nat × Nat} {n : Nat} {p_15 : Int32} {p_1 : Int32} {p_2 : Int32} {h0 : Nat} {p_3 : Int32} {ko6 : St → Int32 → Int32 → Int32 → Option (St × Int32)} {z_26 : St} {p_25 : Int32} (K : Kp Q G) (h_z_26 : Q z_26) (g_h0 : G h0) (hko_ko6 : ∀ (w0 : St) (w1 : Int32) (w2 : Int32) (w3 : Int32), Q w0 → LkP Q (ko6 w0 w1 w2 w3)) : LkP Q (fn_X18_isTooMuch_B109 F sh n p_15 p_1 p_2 h0 p_3 ko6 z_26 p_25) := by
  unfold fn_X18_isTooMuch_B109
  exact (LkP.ite (lkp_fn_X18_isTooMuch_B119 K h_z_26 g_h0 (fun z9 q1 q2 q3 hk_z9 => (hko_ko6 _ _ _ _ hk_z9 ))) (lkp_fn_X18_isTooMuch_B119 K h_z_26 g_h0 (fun z9 q1 q2 q3 hk_z9 => (hko_ko6 _ _ _ _ hk_z9 ))))
theorem lkp_fn_X18_isTooMuch_B79 {F : Nat} {sh : Nat → Nat × Nat} {n : Nat} {h0 : Nat} {p_3 : Int32} {p_1 : Int32} {p_2 : Int32} {ko6 : St → Int32 → Int32 → Int32 → Option (St × Int32)} {z_16 : St} {p_15 : Int32} (K : Kp Q G) (h_z_16 : Q z_16) (g_h0 : G h0) (hko_ko6 : ∀ (w0 : St) (w1 : Int32) (w2 : Int32) (w3 : Int32), Q w0 → LkP Q (ko6 w0 w1 w2 w3)) : LkP Q (fn_X18_isTooMuch_B79 F sh n h0 p_3 p_1 p_2 ko6 z_16 p_15) := by
  unfold fn_X18_isTooMuch_B79
  exact (LkP.xl (fun k_17 q => have g_k_17 := K.2.2.2.2.2 _ _ _ _ h_z_16 g_h0 q; (LkP.xg (LkP.ite (lkp_fn_X18_isTooMuch_B169 K h_z_16 (fun z9 q1 q2 q3 hk_z9 => (hko_ko6 _ _ _ _ hk_z9 ))) (LkP.xl (fun k_23 q => have g_k_23 := K.2.2.2.2.2 _ _ _ _ h_z_16 g_h0 q; (LkP.xg (LkP.ite (lkp_fn_X18_isTooMuch_B109 K h_z_16 g_h0 (fun z9 q1 q2 q3 hk_z9 => (hko_ko6 _ _ _ _ hk_z9 ))) (lkp_fn_X18_isTooMuch_B109 K h_z_16 g_h0 (fun z9 q1 q2 q3 hk_z9 => (hko_ko6 _ _ _ _ hk_z9 )))))))))))
theorem lkp_fn_X18_isTooMuch_B78 {F : Nat} {sh : Nat → Nat × Nat} {n : Nat} {h0 : Nat} {p_3 : Int32} {p_1 : Int32} {p_2 : Int32} {ko6 : St → Int32 → Int32 → Int32 → Option (St × Int32)} {z_54 : St} (K : Kp Q G) (h_z_54 : Q z_54) (g_h0 : G h0) (hko_ko6 : ∀ (w0 : St) (w1 : Int32) (w2 : Int32) (w3 : Int32), Q w0 → LkP Q (ko6 w0 w1 w2 w3)) : LkP Q (fn_X18_isTooMuch_B78 F sh n h0 p_3 p_1 p_2 ko6 z_54) := by
  unfold fn_X18_isTooMuch_B78
  exact (lkp_fn_X18_isTooMuch_B79 K h_z_54 g_h0 (fun z9 q1 q2 q3 hk_z9 => (hko_ko6 _ _ _ _ hk_z9 )))
theorem lkp_fn_X18_isTooMuch_L6 {F : Nat} {sh : Nat → Nat × Nat} {n : Nat} {h0 : Nat} (K : Kp Q G) (g_h0 : G h0) : ∀ (f : Nat) (v1 : St) (v2 : Int32) (v3 : Int32) (v4 : Int32), Q v1 → LkP Q (fn_X18_isTooMuch_L6 F sh n h0 f v1 v2 v3 v4) := by
  intro f
  induction f with
  | zero => intros; exact LkP.none
  | succ f_5 ih =>
    intro z_4 p_1 p_2 p_3 h_z_4
    exact (LkP.xg (LkP.ite (LkP.ite (LkP.xc (lkp_fn_X18_placeCount K h_z_4 g_h0) (fun z_9 r_10 h_z_9 => (LkP.ite (LkP.ret h_z_9) (LkP.ret h_z_9)))) (LkP.ret h_z_4)) (LkP.xl (fun k_13 q => have g_k_13 := K.2.2.2.2.2 _ _ _ _ h_z_4 g_h0 q; (LkP.xg (LkP.ite (LkP.xl (fun k_64 q => have g_k_64 := K.2.2.2.2.2 _ _ _ _ h_z_4 g_h0 q; (LkP.xg (LkP.xc (lkp_fn_X18_findAccount K h_z_4 g_h0) (fun z_66 r_67 h_z_66 => (LkP.ite (lkp_fn_X18_isTooMuch_B79 K h_z_66 g_h0 (fun z9 q1 q2 q3 hk_z9 => (ih _ _ _ _ hk_z9 ))) (lkp_fn_X18_isTooMuch_B79 K h_z_66 g_h0 (fun z9 q1 q2 q3 hk_z9 => (ih _ _ _ _ hk_z9 ))))))))) (LkP.xl (fun k_52 q => have g_k_52 := K.2.2.2.2.2 _ _ _ _ h_z_4 g_h0 q; (LkP.xg (LkP.ite (LkP.xl (fun k_56 q => have g_k_56 := K.2.2.2.2.2 _ _ _ _ h_z_4 g_h0 q; (LkP.xg (LkP.xl (fun k_58 q => have g_k_58 := K.2.2.2.2.2 _ _ _ _ h_z_4 g_h0 q; (LkP.xg (LkP.xc (lkp_fn_X18_findResource K h_z_4 g_h0) (fun z_60 r_61 h_z_60 => (LkP.ite (lkp_fn_X18_isTooMuch_B78 K h_z_60 g_h0 (fun z9 q1 q2 q3 hk_z9 => (ih _ _ _ _ hk_z9 ))) (lkp_fn_X18_isTooMuch_B79 K h_z_60 g_h0 (fun z9 q1 q2 q3 hk_z9 => (ih _ _ _ _ hk_z9 )))))))))))) (lkp_fn_X18_isTooMuch_B78 K h_z_4 g_h0 (fun z9 q1 q2 q3 hk_z9 => (ih _ _ _ _ hk_z9 )))))))))))))
theorem lkp_fn_X18_isTooMuch {F : Nat} {sh : Nat → Nat × Nat} {n : Nat} {z : St} {h0 : Nat} (K : Kp Q G) (h_z : Q z) (g_h0 : G h0) : LkP Q (fn_X18_isTooMuch F sh n z h0) := by
  unfold fn_X18_isTooMuch
  exact (lkp_fn_X18_isTooMuch_L6 K g_h0 _ _ _ _ _ h_z )
theorem lkp_fn_X3_join_B186 {F : Nat} {sh : Nat → Nat × Nat} {n : Nat} {k_30 : Nat} {v_1 : Int32} {p_22 : Int32} {ko127 : St → Int32 → Option (St × Unit)} {z_32 : St} {p_31 : Int64} (K : Kp Q G) (h_z_32 : Q z_32) (g_k_30 : G k_30) (hko_ko127 : ∀ (w0 : St) (w1 : Int32), Q w0 → LkP Q (ko127 w0 w1)) : LkP Q (fn_X3_join_B186 F sh n k_30 v_1 p_22 ko127 z_32 p_31) := by
  unfold fn_X3_join_B186
  exact (LkP.xg (LkP.lts (K.2.1 _ _ _ _ h_z_32 g_k_30) (fun z_35 h_z_35 => (hko_ko127 _ _ h_z_35 ))))
theorem lkp_fn_X3_join_B153 {F : Nat} {sh : Nat → Nat × Nat} {n : Nat} {h0 : Nat} {v_1 : Int32} {p_22 : Int32} {ko127 : St → Int32 → Option (St × Unit)} {z_29 : St} {p_28 : Int32} (K : Kp Q G) (h_z_29 : Q z_29) (g_h0 : G h0) (hko_ko127 : ∀ (w0 : St) (w1 : Int32), Q w0 → LkP Q (ko127 w0 w1)) : LkP Q (fn_X3_join_B153 F sh n h0 v_1 p_22 ko127 z_29 p_28) := by
  unfold fn_X3_join_B153
  exact (LkP.xl (fun k_30 q => have g_k_30 := K.2.2.2.2.2 _ _ _ _ h_z_29 g_h0 q; (LkP.ite (lkp_fn_X3_join_B186 K h_z_29 g_k_30 (fun z9 q3 hk_z9 => (hko_ko127 _ _ hk_z9 ))) (LkP.xl (fun k_37 q => have g_k_37 := K.2.2.2.2.2 _ _ _ _ h_z_29 g_h0 q; (LkP.xg (LkP.xl (fun k_39 q => have g_k_39 := K.2.2.2.2.2 _ _ _ _ h_z_29 g_h0 q; (LkP.xg (lkp_fn_X3_join_B186 K h_z_29 g_k_30 (fun z9 q3 hk_z9 => (hko_ko127 _ _ hk_z9 ))))))))))))
theorem lkp_fn_X3_join_L127 {F : Nat} {sh : Nat → Nat × Nat} {n : Nat} {h0 : Nat} {x0 : Int32} {v_1 : Int32} (K : Kp Q G) (g_h0 : G h0) : ∀ (f : Nat) (v1 : St) (v2 : Int32), Q v1 → LkP Q (fn_X3_join_L127 F sh n h0 x0 v_1 f v1 v2) := by
  intro f
  induction f with
  | zero => intros; exact LkP.none
  | succ f_24 ih =>
    intro z_23 p_22 h_z_23
    exact (LkP.ite (LkP.ret h_z_23) (LkP.xl (fun k_26 q => have g_k_26 := K.2.2.2.2.2 _ _ _ _ h_z_23 g_h0 q; (LkP.xg (LkP.ite (lkp_fn_X3_join_B153 K h_z_23 g_h0 (fun z9 q3 hk_z9 => (ih _ _ hk_z9 ))) (lkp_fn_X3_join_B153 K h_z_23 g_h0 (fun z9 q3 hk_z9 => (ih _ _ hk_z9 ))))))))
theorem lkp_fn_X3_join_B88 {F : Nat} {sh : Nat → Nat × Nat} {n : Nat} {h0 : Nat} {x0 : Int32} {v_1 : Int32} {z_8 : St} (K : Kp Q G) (h_z_8 : Q z_8) (g_h0 : G h0) : LkP Q (fn_X3_join_B88 F sh n h0 x0 v_1 z_8) := by
  unfold fn_X3_join_B88
  exact (LkP.xl (fun k_9 q => have g_k_9 := K.2.2.2.2.2 _ _ _ _ h_z_8 g_h0 q; (LkP.xg (LkP.xg (LkP.lts (K.2.1 _ _ _ _ h_z_8 g_k_9) (fun z_13 h_z_13 => (LkP.xl (fun k_14 q => have g_k_14 := K.2.2.2.2.2 _ _ _ _ h_z_13 g_h0 q; (LkP.xl (fun k_15 q => have g_k_15 := K.2.2.2.2.2 _ _ _ _ h_z_13 g_h0 q; (LkP.xg (LkP.xl (fun k_17 q => have g_k_17 := K.2.2.2.2.2 _ _ _ _ h_z_13 g_h0 q; (LkP.xg (LkP.xg (LkP.lts (K.2.1 _ _ _ _ h_z_13 g_k_14) (fun z_21 h_z_21 => (lkp_fn_X3_join_L127 K g_h0 _ _ _ h_z_21 ))))))))))))))))))
theorem lkp_fn_X3_join {F : Nat} {sh : Nat → Nat × Nat} {n : Nat} {z : St} {h0 : Nat} {x0 : Int32} (K : Kp Q G) (h_z : Q z) (g_h0 : G h0) : LkP Q (fn_X3_join F sh n z h0 x0) := by
  unfold fn_X3_join
  exact (LkP.ltv (fun v_1 => (LkP.xg (LkP.xl (fun k_3 q => have g_k_3 := K.2.2.2.2.2 _ _ _ _ h_z g_h0 q; (LkP.xg (LkP.ite (LkP.xl (fun k_45 q => have g_k_45 := K.2.2.2.2.2 _ _ _ _ h_z g_h0 q; (LkP.xg (LkP.lts (K.1 _ _ _ _ h_z g_k_45) (fun z_48 h_z_48 => (LkP.xl (fun k_49 q => have g_k_49 := K.2.2.2.2.2 _ _ _ _ h_z_48 g_h0 q; (LkP.xg (LkP.lts (K.2.1 _ _ _ _ h_z_48 g_k_49) (fun z_52 h_z_52 => (LkP.xl (fun k_53 q => have g_k_53 := K.2.2.2.2.2 _ _ _ _ h_z_52 g_h0 q; (LkP.xg (LkP.lts (K.2.1 _ _ _ _ h_z_52 g_k_53) (fun z_56 h_z_56 => (LkP.xl (fun k_57 q => have g_k_57 := K.2.2.2.2.2 _ _ _ _ h_z_56 g_h0 q; (LkP.xl (fun k_58 q => have g_k_58 := K.2.2.2.2.2 _ _ _ _ h_z_56 g_h0 q; (LkP.xg (LkP.xg (LkP.xg (LkP.lts (K.2.2.2.2.1 _ _ _ _ _ _ h_z_56 g_k_58) (fun z_63 h_z_63 => (LkP.ret h_z_63))))))))))))))))))))))))) (LkP.xl (fun k_6 q => have g_k_6 := K.2.2.2.2.2 _ _ _ _ h_z g_h0 q; (LkP.xg (LkP.ite (lkp_fn_X3_join_B88 K h_z g_h0) (LkP.xc (lkp_fn_X3_fail K h_z g_h0) (fun z_43 _ h_z_43 => (lkp_fn_X3_join_B88 K h_z_43 g_h0))))))))))))))
theorem lkp_fn_X17_divide_B250 {F : Nat} {sh : Nat → Nat × Nat} {n : Nat} {h0 : Nat} {x1 : Int32} {z_31 : St} {p_30 : Int64} (K : Kp Q G) (h_z_31 : Q z_31) (g_h0 : G h0) : LkP Q (fn_X17_divide_B250 F sh n h0 x1 z_31 p_30) := by
  unfold fn_X17_divide_B250
  exact (LkP.lts (K.2.1 _ _ _ _ h_z_31 g_h0) (fun z_33 h_z_33 => (LkP.xc (lkp_fn_X17_isOf K h_z_33) (fun z_34 r_35 h_z_34 => (LkP.xg (LkP.ret h_z_34))))))
theorem lkp_fn_X17_divide_B235 {F : Nat} {sh : Nat → Nat × Nat} {n : Nat} {h0 : Nat} {x0 : Int32} {x1 : Int32} {p_19 : Int64} {p_21 : Int64} {z_27 : St} {p_26 : Int64} (K : Kp Q G) (h_z_27 : Q z_27) (g_h0 : G h0) : LkP Q (fn_X17_divide_B235 F sh n h0 x0 x1 p_19 p_21 z_27 p_26) := by
  unfold fn_X17_divide_B235
  exact (LkP.lts (K.2.1 _ _ _ _ h_z_27 g_h0) (fun z_29 h_z_29 => (LkP.ite (lkp_fn_X17_divide_B250 K h_z_29 g_h0) (lkp_fn_X17_divide_B250 K h_z_29 g_h0))))
theorem lkp_fn_X17_divide_B214 {F : Nat} {sh : Nat → Nat × Nat} {n : Nat} {p_21 : Int64} {p_48 : Int64} {p_49 : Int64} {v_51 : Int64} {p_22 : Int32} {ko55 : St → Int64 → Int64 → Int64 → Int64 → Int32 → Option (St × Int32)} {z_53 : St} {p_52 : Int64} (K : Kp Q G) (h_z_53 : Q z_53) (hko_ko55 : ∀ (w0 : St) (w1 : Int64) (w2 : Int64) (w3 : Int64) (w4 : Int64) (w5 : Int32), Q w0 → LkP Q (ko55 w0 w1 w2 w3 w4 w5)) : LkP Q (fn_X17_divide_B214 F sh n p_21 p_48 p_49 v_51 p_22 ko55 z_53 p_52) := by
  unfold fn_X17_divide_B214
  exact (LkP.ltv (fun v_54 => (hko_ko55 _ _ _ _ _ _ h_z_53 )))
theorem lkp_fn_X17_divide_B188 {F : Nat} {sh : Nat → Nat × Nat} {n : Nat} {p_20 : Int64} {p_21 : Int64} {p_46 : Int32} {p_22 : Int32} {ko55 : St → Int64 → Int64 → Int64 → Int64 → Int32 → Option (St × Int32)} {z_50 : St} {p_48 : Int64} {p_49 : Int64} (K : Kp Q G) (h_z_50 : Q z_50) (hko_ko55 : ∀ (w0 : St) (w1 : Int64) (w2 : Int64) (w3 : Int64) (w4 : Int64) (w5 : Int32), Q w0 → LkP Q (ko55 w0 w1 w2 w3 w4 w5)) : LkP Q (fn_X17_divide_B188 F sh n p_20 p_21 p_46 p_22 ko55 z_50 p_48 p_49) := by
  unfold fn_X17_divide_B188
  exact (LkP.ltv (fun v_51 => (LkP.ite (lkp_fn_X17_divide_B214 K h_z_50 (fun z9 q11 q13 q15 q17 q19 hk_z9 => (hko_ko55 _ _ _ _ _ _ hk_z9 ))) (lkp_fn_X17_divide_B214 K h_z_50 (fun z9 q11 q13 q15 q17 q19 hk_z9 => (hko_ko55 _ _ _ _ _ _ hk_z9 ))))))
theorem lkp_fn_X17_divide_B169 {F : Nat} {sh : Nat → Nat × Nat} {n : Nat} {v_45 : Int64} {r_16 : Int64} {v_42 : Int64} {r_12 : Int64} {p_20 : Int64} {p_21 : Int64} {p_46 : Int32} {p_22 : Int32} {ko55 : St → Int64 → Int64 → Int64 → Int64 → Int32 → Option (St × Int32)} {z_58 : St} {p_57 : Int64} (K : Kp Q G) (h_z_58 : Q z_58) (hko_ko55 : ∀ (w0 : St) (w1 : Int64) (w2 : Int64) (w3 : Int64) (w4 : Int64) (w5 : Int32), Q w0 → LkP Q (ko55 w0 w1 w2 w3 w4 w5)) : LkP Q (fn_X17_divide_B169 F sh n v_45 r_16 v_42 r_12 p_20 p_21 p_46 p_22 ko55 z_58 p_57) := by
  unfold fn_X17_divide_B169
  exact (LkP.ltv (fun v_59 => (LkP.ltv (fun v_60 => (lkp_fn_X17_divide_B188 K h_z_58 (fun z9 q11 q13 q15 q17 q19 hk_z9 => (hko_ko55 _ _ _ _ _ _ hk_z9 )))))))
theorem lkp_fn_X17_divide_B141 {F : Nat} {sh : Nat → Nat × Nat} {n : Nat} {p_20 : Int64} {p_21 : Int64} {p_22 : Int32} {v_42 : Int64} {v_45 : Int64} {r_16 : Int64} {r_12 : Int64} {ko55 : St → Int64 → Int64 → Int64 → Int64 → Int32 → Option (St × Int32)} {z_47 : St} {p_46 : Int32} (K : Kp Q G) (h_z_47 : Q z_47) (hko_ko55 : ∀ (w0 : St) (w1 : Int64) (w2 : Int64) (w3 : Int64) (w4 : Int64) (w5 : Int32), Q w0 → LkP Q (ko55 w0 w1 w2 w3 w4 w5)) : LkP Q (fn_X17_divide_B141 F sh n p_20 p_21 p_22 v_42 v_45 r_16 r_12 ko55 z_47 p_46) := by
  unfold fn_X17_divide_B141
  exact (LkP.ite (lkp_fn_X17_divide_B188 K h_z_47 (fun z9 q11 q13 q15 q17 q19 hk_z9 => (hko_ko55 _ _ _ _ _ _ hk_z9 ))) (LkP.ite (lkp_fn_X17_divide_B169 K h_z_47 (fun z9 q11 q13 q15 q17 q19 hk_z9 => (hko_ko55 _ _ _ _ _ _ hk_z9 ))) (lkp_fn_X17_divide_B169 K h_z_47 (fun z9 q11 q13 q15 q17 q19 hk_z9 => (hko_ko55 _ _ _ _ _ _ hk_z9 )))))
theorem lkp_fn_X17_divide_B136 {F : Nat} {sh : Nat → Nat × Nat} {n : Nat} {p_20 : Int64} {p_21 : Int64} {p_22 : Int32} {v_42 : Int64} {v_45 : Int64} {r_16 : Int64} {r_12 : Int64} {ko55 : St → Int64 → Int64 → Int64 → Int64 → Int32 → Option (St × Int32)} {z_62 : St} (K : Kp Q G) (h_z_62 : Q z_62) (hko_ko55 : ∀ (w0 : St) (w1 : Int64) (w2 : Int64) (w3 : Int64) (w4 : Int64) (w5 : Int32), Q w0 → LkP Q (ko55 w0 w1 w2 w3 w4 w5)) : LkP Q (fn_X17_divide_B136 F sh n p_20 p_21 p_22 v_42 v_45 r_16 r_12 ko55 z_62) := by
  unfold fn_X17_divide_B136
  exact (lkp_fn_X17_divide_B141 K h_z_62 (fun z9 q11 q13 q15 q17 q19 hk_z9 => (hko_ko55 _ _ _ _ _ _ hk_z9 )))
theorem lkp_fn_X17_divide_B112 {F : Nat} {sh : Nat → Nat × Nat} {n : Nat} {p_19 : Int64} {p_40 : Int32} {v_42 : Int64} {r_12 : Int64} {r_16 : Int64} {p_20 : Int64} {p_21 : Int64} {p_22 : Int32} {ko55 : St → Int64 → Int64 → Int64 → Int64 → Int32 → Option (St × Int32)} {z_44 : St} {p_43 : Int64} (K : Kp Q G) (h_z_44 : Q z_44) (hko_ko55 : ∀ (w0 : St) (w1 : Int64) (w2 : Int64) (w3 : Int64) (w4 : Int64) (w5 : Int32), Q w0 → LkP Q (ko55 w0 w1 w2 w3 w4 w5)) : LkP Q (fn_X17_divide_B112 F sh n p_19 p_40 v_42 r_12 r_16 p_20 p_21 p_22 ko55 z_44 p_43) := by
  unfold fn_X17_divide_B112
  exact (LkP.ltv (fun v_45 => (LkP.ite (LkP.xc (lkp_fn_X17_compare K h_z_44) (fun z_64 r_65 h_z_64 => (LkP.ite (lkp_fn_X17_divide_B141 K h_z_64 (fun z9 q11 q13 q15 q17 q19 hk_z9 => (hko_ko55 _ _ _ _ _ _ hk_z9 ))) (lkp_fn_X17_divide_B136 K h_z_64 (fun z9 q11 q13 q15 q17 q19 hk_z9 => (hko_ko55 _ _ _ _ _ _ hk_z9 )))))) (lkp_fn_X17_divide_B136 K h_z_44 (fun z9 q11 q13 q15 q17 q19 hk_z9 => (hko_ko55 _ _ _ _ _ _ hk_z9 ))))))
theorem lkp_fn_X17_divide_B72 {F : Nat} {sh : Nat → Nat × Nat} {n : Nat} {p_18 : Int64} {p_19 : Int64} {p_22 : Int32} {r_12 : Int64} {r_16 : Int64} {p_20 : Int64} {p_21 : Int64} {r_8 : Int64} {r_4 : Int64} {ko55 : St → Int64 → Int64 → Int64 → Int64 → Int32 → Option (St × Int32)} {z_41 : St} {p_40 : Int32} (K : Kp Q G) (h_z_41 : Q z_41) (hko_ko55 : ∀ (w0 : St) (w1 : Int64) (w2 : Int64) (w3 : Int64) (w4 : Int64) (w5 : Int32), Q w0 → LkP Q (ko55 w0 w1 w2 w3 w4 w5)) : LkP Q (fn_X17_divide_B72 F sh n p_18 p_19 p_22 r_12 r_16 p_20 p_21 r_8 r_4 ko55 z_41 p_40) := by
  unfold fn_X17_divide_B72
  exact (LkP.ltv (fun v_42 => (LkP.ite (lkp_fn_X17_divide_B112 K h_z_41 (fun z9 q11 q13 q15 q17 q19 hk_z9 => (hko_ko55 _ _ _ _ _ _ hk_z9 ))) (lkp_fn_X17_divide_B112 K h_z_41 (fun z9 q11 q13 q15 q17 q19 hk_z9 => (hko_ko55 _ _ _ _ _ _ hk_z9 ))))))
theorem lkp_fn_X17_divide_L55 {F : Nat} {sh : Nat → Nat × Nat} {n : Nat} {x0 : Int32} {h0 : Nat} {x1 : Int32} {r_12 : Int64} {r_16 : Int64} {r_8 : Int64} {r_4 : Int64} (K : Kp Q G) (g_h0 : G h0) : ∀ (f : Nat) (v1 : St) (v2 : Int64) (v3 : Int64) (v4 : Int64) (v5 : Int64) (v6 : Int32), Q v1 → LkP Q (fn_X17_divide_L55 F sh n x0 h0 x1 r_12 r_16 r_8 r_4 f v1 v2 v3 v4 v5 v6) := by
  intro f
  induction f with
  | zero => intros; exact LkP.none
  | succ f_24 ih =>
    intro z_23 p_18 p_19 p_20 p_21 p_22 h_z_23
    exact (LkP.ite (LkP.ite (lkp_fn_X17_divide_B235 K h_z_23 g_h0) (lkp_fn_X17_divide_B235 K h_z_23 g_h0)) (LkP.ite (lkp_fn_X17_divide_B72 K h_z_23 (fun z9 q11 q13 q15 q17 q19 hk_z9 => (ih _ _ _ _ _ _ hk_z9 ))) (lkp_fn_X17_divide_B72 K h_z_23 (fun z9 q11 q13 q15 q17 q19 hk_z9 => (ih _ _ _ _ _ _ hk_z9 )))))
theorem lkp_fn_X17_divide {F : Nat} {sh : Nat → Nat × Nat} {n : Nat} {z : St} {h0 : Nat} {x0 : Int32} {x1 : Int32} (K : Kp Q G) (h_z : Q z) (g_h0 : G h0) : LkP Q (fn_X17_divide F sh n z h0 x0 x1) := by
  unfold fn_X17_divide
  exact (LkP.xg (LkP.xl (fun k_2 q => have g_k_2 := K.2.2.2.2.2 _ _ _ _ h_z g_h0 q; (LkP.xc (lkp_fn_X17_four K h_z g_k_2) (fun z_3 r_4 h_z_3 => (LkP.xl (fun k_6 q => have g_k_6 := K.2.2.2.2.2 _ _ _ _ h_z_3 g_h0 q; (LkP.xc (lkp_fn_X17_four K h_z_3 g_k_6) (fun z_7 r_8 h_z_7 => (LkP.xl (fun k_10 q => have g_k_10 := K.2.2.2.2.2 _ _ _ _ h_z_7 g_h0 q; (LkP.xc (lkp_fn_X17_four K h_z_7 g_k_10) (fun z_11 r_12 h_z_11 => (LkP.xl (fun k_14 q => have g_k_14 := K.2.2.2.2.2 _ _ _ _ h_z_11 g_h0 q; (LkP.xc (lkp_fn_X17_four K h_z_11 g_k_14) (fun z_15 r_16 h_z_15 => (lkp_fn_X17_divide_L55 K g_h0 _ _ _ _ _ _ _ h_z_15 ))))))))))))))))))
theorem lkp_fn_X12_block_L243 {F : Nat} {sh : Nat → Nat × Nat} {n : Nat} {h0 : Nat} (K : Kp Q G) (g_h0 : G h0) : ∀ (f : Nat) (v1 : St) (v2 : Int64) (v3 : Int64) (v4 : Int64) (v5 : Int64) (v6 : Int64) (v7 : Int64) (v8 : Int64) (v9 : Int64) (v10 : Int32), Q v1 → LkP Q (fn_X12_block_L243 F sh n h0 f v1 v2 v3 v4 v5 v6 v7 v8 v9 v10) := by
  intro f
  induction f with
  | zero => intros; exact LkP.none
  | succ f_44 ih =>
    intro z_43 p_34 p_35 p_36 p_37 p_38 p_39 p_40 p_41 p_42 h_z_43
    exact (LkP.ite (LkP.xl (fun k_46 q => have g_k_46 := K.2.2.2.2.2 _ _ _ _ h_z_43 g_h0 q; (LkP.xl (fun k_47 q => have g_k_47 := K.2.2.2.2.2 _ _ _ _ h_z_43 g_h0 q; (LkP.xg (LkP.xg (LkP.lts (K.2.1 _ _ _ _ h_z_43 g_k_46) (fun z_51 h_z_51 => (LkP.xl (fun k_52 q => have g_k_52 := K.2.2.2.2.2 _ _ _ _ h_z_51 g_h0 q; (LkP.xl (fun k_53 q => have g_k_53 := K.2.2.2.2.2 _ _ _ _ h_z_51 g_h0 q; (LkP.xg (LkP.xg (LkP.lts (K.2.1 _ _ _ _ h_z_51 g_k_52) (fun z_57 h_z_57 => (LkP.xl (fun k_58 q => have g_k_58 := K.2.2.2.2.2 _ _ _ _ h_z_57 g_h0 q; (LkP.xl (fun k_59 q => have g_k_59 := K.2.2.2.2.2 _ _ _ _ h_z_57 g_h0 q; (LkP.xg (LkP.xg (LkP.lts (K.2.1 _ _ _ _ h_z_57 g_k_58) (fun z_63 h_z_63 => (LkP.xl (fun k_64 q => have g_k_64 := K.2.2.2.2.2 _ _ _ _ h_z_63 g_h0 q; (LkP.xl (fun k_65 q => have g_k_65 := K.2.2.2.2.2 _ _ _ _ h_z_63 g_h0 q; (LkP.xg (LkP.xg (LkP.lts (K.2.1 _ _ _ _ h_z_63 g_k_64) (fun z_69 h_z_69 => (LkP.xl (fun k_70 q => have g_k_70 := K.2.2.2.2.2 _ _ _ _ h_z_69 g_h0 q; (LkP.xl (fun k_71 q => have g_k_71 := K.2.2.2.2.2 _ _ _ _ h_z_69 g_h0 q; (LkP.xg (LkP.xg (LkP.lts (K.2.1 _ _ _ _ h_z_69 g_k_70) (fun z_75 h_z_75 => (LkP.xl (fun k_76 q => have g_k_76 := K.2.2.2.2.2 _ _ _ _ h_z_75 g_h0 q; (LkP.xl (fun k_77 q => have g_k_77 := K.2.2.2.2.2 _ _ _ _ h_z_75 g_h0 q; (LkP.xg (LkP.xg (LkP.lts (K.2.1 _ _ _ _ h_z_75 g_k_76) (fun z_81 h_z_81 => (LkP.xl (fun k_82 q => have g_k_82 := K.2.2.2.2.2 _ _ _ _ h_z_81 g_h0 q; (LkP.xl (fun k_83 q => have g_k_83 := K.2.2.2.2.2 _ _ _ _ h_z_81 g_h0 q; (LkP.xg (LkP.xg (LkP.lts (K.2.1 _ _ _ _ h_z_81 g_k_82) (fun z_87 h_z_87 => (LkP.xl (fun k_88 q => have g_k_88 := K.2.2.2.2.2 _ _ _ _ h_z_87 g_h0 q; (LkP.xl (fun k_89 q => have g_k_89 := K.2.2.2.2.2 _ _ _ _ h_z_87 g_h0 q; (LkP.xg (LkP.xg (LkP.lts (K.2.1 _ _ _ _ h_z_87 g_k_88) (fun z_93 h_z_93 => (LkP.ret h_z_93))))))))))))))))))))))))))))))))))))))))))))))))))))))))))))))))) (LkP.xc (lkp_fn_X12_turned K h_z_43) (fun z_94 r_95 h_z_94 => (LkP.xc (lkp_fn_X12_turned K h_z_94) (fun z_97 r_98 h_z_97 => (LkP.xc (lkp_fn_X12_turned K h_z_97) (fun z_100 r_101 h_z_100 => (LkP.xg (LkP.xl (fun k_104 q => have g_k_104 := K.2.2.2.2.2 _ _ _ _ h_z_100 g_h0 q; (LkP.xg (LkP.ltv (fun v_106 => (LkP.xc (lkp_fn_X12_turned K h_z_100) (fun z_107 r_108 h_z_107 => (LkP.xc (lkp_fn_X12_turned K h_z_107) (fun z_110 r_111 h_z_110 => (LkP.xc (lkp_fn_X12_turned K h_z_110) (fun z_113 r_114 h_z_113 => (LkP.ltv (fun v_116 => (LkP.ltv (fun v_117 => (LkP.ltv (fun v_118 => (ih _ _ _ _ _ _ _ _ _ _ h_z_113 ))))))))))))))))))))))))))
theorem lkp_fn_X12_block_L66 {F : Nat} {sh : Nat → Nat × Nat} {n : Nat} {h0 : Nat} (K : Kp Q G) (g_h0 : G h0) : ∀ (f : Nat) (v1 : St) (v2 : Int32), Q v1 → LkP Q (fn_X12_block_L66 F sh n h0 f v1 v2) := by
  intro f
  induction f with
  | zero => intros; exact LkP.none
  | succ f_7 ih =>
    intro z_6 p_5 h_z_6
    exact (LkP.ite (LkP.xg (LkP.xl (fun k_10 q => have g_k_10 := K.2.2.2.2.2 _ _ _ _ h_z_6 g_h0 q; (LkP.xg (LkP.ltv (fun v_12 => (LkP.xl (fun k_13 q => have g_k_13 := K.2.2.2.2.2 _ _ _ _ h_z_6 g_h0 q; (LkP.xg (LkP.ltv (fun v_15 => (LkP.xl (fun k_16 q => have g_k_16 := K.2.2.2.2.2 _ _ _ _ h_z_6 g_h0 q; (LkP.xg (LkP.ltv (fun v_18 => (LkP.xl (fun k_19 q => have g_k_19 := K.2.2.2.2.2 _ _ _ _ h_z_6 g_h0 q; (LkP.xg (LkP.ltv (fun v_21 => (LkP.xl (fun k_22 q => have g_k_22 := K.2.2.2.2.2 _ _ _ _ h_z_6 g_h0 q; (LkP.xg (LkP.ltv (fun v_24 => (LkP.xl (fun k_25 q => have g_k_25 := K.2.2.2.2.2 _ _ _ _ h_z_6 g_h0 q; (LkP.xg (LkP.ltv (fun v_27 => (LkP.xl (fun k_28 q => have g_k_28 := K.2.2.2.2.2 _ _ _ _ h_z_6 g_h0 q; (LkP.xg (LkP.ltv (fun v_30 => (LkP.xl (fun k_31 q => have g_k_31 := K.2.2.2.2.2 _ _ _ _ h_z_6 g_h0 q; (LkP.xg (LkP.ltv (fun v_33 => (lkp_fn_X12_block_L243 K g_h0 _ _ _ _ _ _ _ _ _ _ _ h_z_6 )))))))))))))))))))))))))))))))))))))))))) (LkP.xg (LkP.xl (fun k_120 q => have g_k_120 := K.2.2.2.2.2 _ _ _ _ h_z_6 g_h0 q; (LkP.xg (LkP.ltv (fun v_122 => (LkP.xl (fun k_123 q => have g_k_123 := K.2.2.2.2.2 _ _ _ _ h_z_6 g_h0 q; (LkP.xg (LkP.ltv (fun v_125 => (LkP.xc (lkp_fn_X12_turned K h_z_6) (fun z_126 r_127 h_z_126 => (LkP.xc (lkp_fn_X12_turned K h_z_126) (fun z_129 r_130 h_z_129 => (LkP.ltv (fun v_132 => (LkP.xc (lkp_fn_X12_turned K h_z_129) (fun z_133 r_134 h_z_133 => (LkP.xc (lkp_fn_X12_turned K h_z_133) (fun z_136 r_137 h_z_136 => (LkP.ltv (fun v_139 => (LkP.xl (fun k_140 q => have g_k_140 := K.2.2.2.2.2 _ _ _ _ h_z_136 g_h0 q; (LkP.xl (fun k_141 q => have g_k_141 := K.2.2.2.2.2 _ _ _ _ h_z_136 g_h0 q; (LkP.xg (LkP.xl (fun k_143 q => have g_k_143 := K.2.2.2.2.2 _ _ _ _ h_z_136 g_h0 q; (LkP.xg (LkP.xg (LkP.lts (K.2.1 _ _ _ _ h_z_136 g_k_140) (fun z_147 h_z_147 => (ih _ _ h_z_147 ))))))))))))))))))))))))))))))))))))
theorem lkp_fn_X12_block_L13 {F : Nat} {sh : Nat → Nat × Nat} {n : Nat} {h0 : Nat} {p_1 : Int32} {x0 : Int32} {ko2 : St → Int32 → Option (St × Unit)} (K : Kp Q G) (g_h0 : G h0) (hko_ko2 : ∀ (w0 : St) (w1 : Int32), Q w0 → LkP Q (ko2 w0 w1)) : ∀ (f : Nat) (v1 : St) (v2 : Int64) (v3 : Int32), Q v1 → LkP Q (fn_X12_block_L13 F sh n h0 p_1 x0 ko2 f v1 v2 v3) := by
  intro f
  induction f with
  | zero => intros; exact LkP.none
  | succ f_151 ih =>
    intro z_150 p_148 p_149 h_z_150
    exact (LkP.ite (LkP.xg (LkP.xl (fun k_154 q => have g_k_154 := K.2.2.2.2.2 _ _ _ _ h_z_150 g_h0 q; (LkP.xg (LkP.lts (K.2.1 _ _ _ _ h_z_150 g_k_154) (fun z_157 h_z_157 => (hko_ko2 _ _ h_z_157 ))))))) (LkP.xg (LkP.xl (fun k_159 q => have g_k_159 := K.2.2.2.2.2 _ _ _ _ h_z_150 g_h0 q; (LkP.xg (LkP.ltv (fun v_161 => (ih _ _ _ h_z_150 ))))))))
theorem lkp_fn_X12_block_L2 {F : Nat} {sh : Nat → Nat × Nat} {n : Nat} {h0 : Nat} {x0 : Int32} (K : Kp Q G) (g_h0 : G h0) : ∀ (f : Nat) (v1 : St) (v2 : Int32), Q v1 → LkP Q (fn_X12_block_L2 F sh n h0 x0 f v1 v2) := by
  intro f
  induction f with
  | zero => intros; exact LkP.none
  | succ f_3 ih =>
    intro z_2 p_1 h_z_2
    exact (LkP.ite (lkp_fn_X12_block_L66 K g_h0 _ _ _ h_z_2 ) (lkp_fn_X12_block_L13 K g_h0 (fun z9 q2 hk_z9 => (ih _ _ hk_z9 )) _ _ _ _ h_z_2 ))
theorem lkp_fn_X12_block {F : Nat} {sh : Nat → Nat × Nat} {n : Nat} {z : St} {h0 : Nat} {x0 : Int32} (K : Kp Q G) (h_z : Q z) (g_h0 : G h0) : LkP Q (fn_X12_block F sh n z h0 x0) := by
  unfold fn_X12_block
  exact (lkp_fn_X12_block_L2 K g_h0 _ _ _ h_z )
theorem lkp_fn_X16_number {F : Nat} {sh : Nat → Nat × Nat} {n : Nat} {z : St} {h0 : Nat} (K : Kp Q G) (h_z : Q z) (g_h0 : G h0) : LkP Q (fn_X16_number F sh n z h0) := by
  unfold fn_X16_number
  exact (LkP.xg (LkP.xc (lkp_fn_X16_shortAt K h_z g_h0) (fun z_1 r_2 h_z_1 => (LkP.ret h_z_1))))
theorem lkp_fn_X1_copyOf {F : Nat} {sh : Nat → Nat × Nat} {n : Nat} {z : St} {h0 : Nat} {x0 : Int32} (K : Kp Q G) (h_z : Q z) (g_h0 : G h0) : LkP Q (fn_X1_copyOf F sh n z h0 x0) := by
  unfold fn_X1_copyOf
  exact (LkP.xg (LkP.xc (lkp_fn_X1_copyAt K  _ _ _ _ _ h_z g_h0) (fun z_1 r_2 h_z_1 => (LkP.ret h_z_1))))
theorem lkp_fn_X1_sizeOf {F : Nat} {sh : Nat → Nat × Nat} {n : Nat} {z : St} {h0 : Nat} {x0 : Int32} (K : Kp Q G) (h_z : Q z) (g_h0 : G h0) : LkP Q (fn_X1_sizeOf F sh n z h0 x0) := by
  unfold fn_X1_sizeOf
  exact (LkP.xg (LkP.xc (lkp_fn_X1_sizeAt K  _ _ _ _ _ h_z g_h0) (fun z_1 r_2 h_z_1 => (LkP.ret h_z_1))))
theorem lkp_fn_X1_areAlike {F : Nat} {sh : Nat → Nat × Nat} {n : Nat} {z : St} {h0 : Nat} {x0 : Int32} {x1 : Int32} (K : Kp Q G) (h_z : Q z) (g_h0 : G h0) : LkP Q (fn_X1_areAlike F sh n z h0 x0 x1) := by
  unfold fn_X1_areAlike
  exact (LkP.xg (LkP.xc (lkp_fn_X1_alikeAt K  _ _ _ _ _ _ h_z g_h0) (fun z_1 r_2 h_z_1 => (LkP.xg (LkP.ret h_z_1)))))
theorem lkp_fn_X3_put {F : Nat} {sh : Nat → Nat × Nat} {n : Nat} {z : St} {h0 : Nat} {x0 : Int64} (K : Kp Q G) (h_z : Q z) (g_h0 : G h0) : LkP Q (fn_X3_put F sh n z h0 x0) := by
  unfold fn_X3_put
  exact (LkP.xg (LkP.xc (lkp_fn_X3_putReference K h_z g_h0) (fun z_1 _ h_z_1 => (LkP.ret h_z_1))))
theorem lkp_fn_X18_load {F : Nat} {sh : Nat → Nat × Nat} {n : Nat} {z : St} {h0 : Nat} {x0 : Int32} (K : Kp Q G) (h_z : Q z) (g_h0 : G h0) : LkP Q (fn_X18_load F sh n z h0 x0) := by
  unfold fn_X18_load
  exact (LkP.xg (LkP.lts (K.1 _ _ _ _ h_z g_h0) (fun z_3 h_z_3 => (LkP.xc (lkp_fn_X18_loadOne K  _ _ _ h_z_3 g_h0) (fun z_4 r_5 h_z_4 => (LkP.ret h_z_4))))))
theorem lkp_fn_X18_keep {F : Nat} {sh : Nat → Nat × Nat} {n : Nat} {z : St} {h0 : Nat} {x0 : Int32} {x1 : Int32} (K : Kp Q G) (h_z : Q z) (g_h0 : G h0) : LkP Q (fn_X18_keep F sh n z h0 x0 x1) := by
  unfold fn_X18_keep
  exact (LkP.xg (LkP.lts (K.1 _ _ _ _ h_z g_h0) (fun z_3 h_z_3 => (LkP.xc (lkp_fn_X18_keepOne K  _ _ _ _ h_z_3 g_h0) (fun z_4 _ h_z_4 => (LkP.ret h_z_4))))))
theorem lkp_fn_X3_takeOnly {F : Nat} {sh : Nat → Nat × Nat} {n : Nat} {z : St} {h0 : Nat} {x0 : Int64} (K : Kp Q G) (h_z : Q z) (g_h0 : G h0) : LkP Q (fn_X3_takeOnly F sh n z h0 x0) := by
  unfold fn_X3_takeOnly
  exact (LkP.xg (LkP.xc (lkp_fn_X3_take K h_z g_h0) (fun z_1 r_2 h_z_1 => (LkP.ite (LkP.ret h_z_1) (LkP.xc (lkp_fn_X3_fail K h_z_1 g_h0) (fun z_6 _ h_z_6 => (LkP.ret h_z_6)))))))
theorem lkp_fn_X5_localCount {F : Nat} {sh : Nat → Nat × Nat} {n : Nat} {z : St} {h0 : Nat} {x0 : Int32} (K : Kp Q G) (h_z : Q z) (g_h0 : G h0) : LkP Q (fn_X5_localCount F sh n z h0 x0) := by
  unfold fn_X5_localCount
  exact (LkP.xg (LkP.xc (lkp_fn_X5_takes K h_z g_h0) (fun z_1 r_2 h_z_1 => (LkP.xc (lkp_fn_X5_functionColumn K h_z_1 g_h0) (fun z_5 r_6 h_z_5 => (LkP.ret h_z_5))))))
theorem lkp_fn_X16_foreignModule {F : Nat} {sh : Nat → Nat × Nat} {n : Nat} {z : St} {h0 : Nat} {x0 : Int32} (K : Kp Q G) (h_z : Q z) (g_h0 : G h0) : LkP Q (fn_X16_foreignModule F sh n z h0 x0) := by
  unfold fn_X16_foreignModule
  exact (LkP.xg (LkP.xl (fun k_2 q => have g_k_2 := K.2.2.2.2.2 _ _ _ _ h_z g_h0 q; (LkP.xg (LkP.xc (lkp_fn_X16_shortAt K h_z g_h0) (fun z_4 r_5 h_z_4 => (LkP.ret h_z_4)))))))
theorem lkp_fn_X1_load {F : Nat} {sh : Nat → Nat × Nat} {n : Nat} {z : St} {h0 : Nat} {x0 : Nat} {x1 : Int32} (K : Kp Q G) (h_z : Q z) (g_h0 : G h0) (g_x0 : G x0) : LkP Q (fn_X1_load F sh n z h0 x0 x1) := by
  unfold fn_X1_load
  exact (LkP.xg (LkP.lts (K.1 _ _ _ _ h_z g_h0) (fun z_3 h_z_3 => (LkP.xc (lkp_fn_X1_loadNode K  _ _ _ _ _ h_z_3 g_h0 g_x0) (fun z_4 r_5 h_z_4 => (LkP.ret h_z_4))))))
theorem lkp_fn_X3_has {F : Nat} {sh : Nat → Nat × Nat} {n : Nat} {z : St} {h0 : Nat} {x0 : Int64} {x1 : Int32} (K : Kp Q G) (h_z : Q z) (g_h0 : G h0) : LkP Q (fn_X3_has F sh n z h0 x0 x1) := by
  unfold fn_X3_has
  exact (LkP.xg (LkP.xl (fun k_2 q => have g_k_2 := K.2.2.2.2.2 _ _ _ _ h_z g_h0 q; (LkP.xg (LkP.xc (lkp_fn_X5_abilities K h_z g_k_2) (fun z_3 r_4 h_z_3 => (LkP.ite (LkP.ret h_z_3) (LkP.ret h_z_3))))))))
theorem lkp_fn_X0_putLong_L3 {F : Nat} {sh : Nat → Nat × Nat} {n : Nat} {h0 : Nat} {x0 : Int64} (K : Kp Q G) (g_h0 : G h0) : ∀ (f : Nat) (v1 : St) (v2 : Int32), Q v1 → LkP Q (fn_X0_putLong_L3 F sh n h0 x0 f v1 v2) := by
  intro f
  induction f with
  | zero => intros; exact LkP.none
  | succ f_3 ih =>
    intro z_2 p_1 h_z_2
    exact (LkP.ite (LkP.ret h_z_2) (LkP.xg (LkP.xc (lkp_fn_X0_put K h_z_2 g_h0) (fun z_5 _ h_z_5 => (ih _ _ h_z_5 )))))
theorem lkp_fn_X0_putLong {F : Nat} {sh : Nat → Nat × Nat} {n : Nat} {z : St} {h0 : Nat} {x0 : Int64} (K : Kp Q G) (h_z : Q z) (g_h0 : G h0) : LkP Q (fn_X0_putLong F sh n z h0 x0) := by
  unfold fn_X0_putLong
  exact (lkp_fn_X0_putLong_L3 K g_h0 _ _ _ h_z )
theorem lkp_fn_X18_make {F : Nat} {sh : Nat → Nat × Nat} {n : Nat} {z : St} {h0 : Nat} {x0 : Int32} {x1 : Int64} {x2 : Int64} (K : Kp Q G) (h_z : Q z) (g_h0 : G h0) : LkP Q (fn_X18_make F sh n z h0 x0 x1 x2) := by
  unfold fn_X18_make
  exact (LkP.xg (LkP.xc (lkp_fn_X18_goesOn K h_z g_h0) (fun z_1 r_2 h_z_1 => (LkP.ite (LkP.ret h_z_1) (LkP.xl (fun k_6 q => have g_k_6 := K.2.2.2.2.2 _ _ _ _ h_z_1 g_h0 q; (LkP.xg (LkP.xc (lkp_fn_X15_make K h_z_1 g_k_6) (fun z_7 r_8 h_z_7 => (LkP.xc (lkp_fn_X18_push K h_z_7 g_h0) (fun z_11 _ h_z_11 => (LkP.ret h_z_11))))))))))))
theorem lkp_fn_X5_givenType {F : Nat} {sh : Nat → Nat × Nat} {n : Nat} {z : St} {h0 : Nat} {x0 : Int32} {x1 : Int32} (K : Kp Q G) (h_z : Q z) (g_h0 : G h0) : LkP Q (fn_X5_givenType F sh n z h0 x0 x1) := by
  unfold fn_X5_givenType
  exact (LkP.xg (LkP.xc (lkp_fn_X5_functionColumn K h_z g_h0) (fun z_1 r_2 h_z_1 => (LkP.xc (lkp_fn_X5_takes K h_z_1 g_h0) (fun z_5 r_6 h_z_5 => (LkP.xc (lkp_fn_X5_typeAt K h_z_5 g_h0) (fun z_8 r_9 h_z_8 => (LkP.ret h_z_8))))))))
theorem lkp_fn_X13_take_ {F : Nat} {sh : Nat → Nat × Nat} {n : Nat} {z : St} {h0 : Nat} {x0 : Int64} (K : Kp Q G) (h_z : Q z) (g_h0 : G h0) : LkP Q (fn_X13_take_ F sh n z h0 x0) := by
  unfold fn_X13_take_
  exact (LkP.xg (LkP.xc (lkp_fn_X13_take K h_z g_h0) (fun z_1 _ h_z_1 => (LkP.ite (LkP.ite (LkP.ret h_z_1) (LkP.xc (lkp_fn_X13_fail K h_z_1 g_h0) (fun z_6 _ h_z_6 => (LkP.ret h_z_6)))) (LkP.ret h_z_1)))))
theorem lkp_fn_X6_readTypes_L2 {F : Nat} {sh : Nat → Nat × Nat} {n : Nat} {x0 : Int32} {h0 : Nat} {x1 : Int32} (K : Kp Q G) (g_h0 : G h0) : ∀ (f : Nat) (v1 : St) (v2 : Int32), Q v1 → LkP Q (fn_X6_readTypes_L2 F sh n x0 h0 x1 f v1 v2) := by
  intro f
  induction f with
  | zero => intros; exact LkP.none
  | succ f_3 ih =>
    intro z_2 p_1 h_z_2
    exact (LkP.ite (LkP.ret h_z_2) (LkP.xg (LkP.ite (LkP.xl (fun k_7 q => have g_k_7 := K.2.2.2.2.2 _ _ _ _ h_z_2 g_h0 q; (LkP.xc (lkp_fn_X6_readOneType K h_z_2 g_h0) (fun z_8 r_9 h_z_8 => (LkP.xg (LkP.xc (lkp_fn_X5_addType K h_z_8 g_k_7) (fun z_11 _ h_z_11 => (ih _ _ h_z_11 )))))))) (LkP.ret h_z_2))))
theorem lkp_fn_X6_readTypes {F : Nat} {sh : Nat → Nat × Nat} {n : Nat} {z : St} {h0 : Nat} {x0 : Int32} {x1 : Int32} (K : Kp Q G) (h_z : Q z) (g_h0 : G h0) : LkP Q (fn_X6_readTypes F sh n z h0 x0 x1) := by
  unfold fn_X6_readTypes
  exact (lkp_fn_X6_readTypes_L2 K g_h0 _ _ _ h_z )
theorem lkp_fn_X4_removeLast {F : Nat} {sh : Nat → Nat × Nat} {n : Nat} {z : St} {h0 : Nat} {x0 : Int32} {x1 : Int64} (K : Kp Q G) (h_z : Q z) (g_h0 : G h0) : LkP Q (fn_X4_removeLast F sh n z h0 x0 x1) := by
  unfold fn_X4_removeLast
  exact (LkP.ite (LkP.xg (LkP.xc (lkp_fn_X4_end K h_z g_h0) (fun z_13 _ h_z_13 => (LkP.ret h_z_13)))) (LkP.xg (LkP.xc (lkp_fn_X4_pop K h_z g_h0) (fun z_2 r_3 h_z_2 => (LkP.xl (fun k_6 q => have g_k_6 := K.2.2.2.2.2 _ _ _ _ h_z_2 g_h0 q; (LkP.xg (LkP.xc (lkp_fn_X1_detach K h_z_2 g_k_6) (fun z_7 r_8 h_z_7 => (LkP.xc (lkp_fn_X4_push K h_z_7 g_h0) (fun z_11 _ h_z_11 => (LkP.ret h_z_11))))))))))))
theorem lkp_fn_X16_ownIn {F : Nat} {sh : Nat → Nat × Nat} {n : Nat} {z : St} {h0 : Nat} {x0 : Int32} (K : Kp Q G) (h_z : Q z) (g_h0 : G h0) : LkP Q (fn_X16_ownIn F sh n z h0 x0) := by
  unfold fn_X16_ownIn
  exact (LkP.xg (LkP.xc (lkp_fn_X16_typeEnd K h_z g_h0) (fun z_1 r_2 h_z_1 => (LkP.xc (lkp_fn_X16_byteAt K h_z_1 g_h0) (fun z_5 r_6 h_z_5 => (LkP.xc (lkp_fn_X16_isStructureType K h_z_5 g_h0) (fun z_8 r_9 h_z_8 => (LkP.ite (LkP.ret h_z_8) (LkP.ite (LkP.ret h_z_8) (LkP.ret h_z_8))))))))))
theorem lkp_fn_X5_localType {F : Nat} {sh : Nat → Nat × Nat} {n : Nat} {z : St} {h0 : Nat} {x0 : Int32} {x1 : Int32} (K : Kp Q G) (h_z : Q z) (g_h0 : G h0) : LkP Q (fn_X5_localType F sh n z h0 x0 x1) := by
  unfold fn_X5_localType
  exact (LkP.xg (LkP.xc (lkp_fn_X5_functionColumn K h_z g_h0) (fun z_1 r_2 h_z_1 => (LkP.xc (lkp_fn_X5_takes K h_z_1 g_h0) (fun z_5 r_6 h_z_5 => (LkP.ite (LkP.xc (lkp_fn_X5_gives K h_z_5 g_h0) (fun z_9 r_10 h_z_9 => (LkP.xc (lkp_fn_X5_typeAt K h_z_9 g_h0) (fun z_12 r_13 h_z_12 => (LkP.ret h_z_12))))) (LkP.xc (lkp_fn_X5_typeAt K h_z_5 g_h0) (fun z_15 r_16 h_z_15 => (LkP.ret h_z_15)))))))))
theorem lkp_fn_X14_add_B27 {F : Nat} {sh : Nat → Nat × Nat} {n : Nat} {k_6 : Nat} {p_1 : Int32} {ko3 : St → Int32 → Option (St × Unit)} {z_8 : St} {p_7 : Int64} (K : Kp Q G) (h_z_8 : Q z_8) (g_k_6 : G k_6) (hko_ko3 : ∀ (w0 : St) (w1 : Int32), Q w0 → LkP Q (ko3 w0 w1)) : LkP Q (fn_X14_add_B27 F sh n k_6 p_1 ko3 z_8 p_7) := by
  unfold fn_X14_add_B27
  exact (LkP.xg (LkP.xc (lkp_fn_X12_addNumber K h_z_8 g_k_6) (fun z_9 _ h_z_9 => (hko_ko3 _ _ h_z_9 ))))
theorem lkp_fn_X14_add_L3 {F : Nat} {sh : Nat → Nat × Nat} {n : Nat} {h0 : Nat} {x2 : Int32} {x0 : Nat} {x1 : Int32} (K : Kp Q G) (g_h0 : G h0) (g_x0 : G x0) : ∀ (f : Nat) (v1 : St) (v2 : Int32), Q v1 → LkP Q (fn_X14_add_L3 F sh n h0 x2 x0 x1 f v1 v2) := by
  intro f
  induction f with
  | zero => intros; exact LkP.none
  | succ f_3 ih =>
    intro z_2 p_1 h_z_2
    exact (LkP.ite (LkP.ret h_z_2) (LkP.xg (LkP.xl (fun k_6 q => have g_k_6 := K.2.2.2.2.2 _ _ _ _ h_z_2 g_h0 q; (LkP.ite (lkp_fn_X14_add_B27 K h_z_2 g_k_6 (fun z9 q4 hk_z9 => (ih _ _ hk_z9 ))) (LkP.xg (lkp_fn_X14_add_B27 K h_z_2 g_k_6 (fun z9 q4 hk_z9 => (ih _ _ hk_z9 )))))))))
theorem lkp_fn_X14_add {F : Nat} {sh : Nat → Nat × Nat} {n : Nat} {z : St} {h0 : Nat} {x0 : Nat} {x1 : Int32} {x2 : Int32} (K : Kp Q G) (h_z : Q z) (g_h0 : G h0) (g_x0 : G x0) : LkP Q (fn_X14_add F sh n z h0 x0 x1 x2) := by
  unfold fn_X14_add
  exact (lkp_fn_X14_add_L3 K g_h0 g_x0 _ _ _ h_z )
theorem lkp_fn_X16_listEnd_L13 {F : Nat} {sh : Nat → Nat × Nat} {n : Nat} {r_2 : Int32} {h0 : Nat} (K : Kp Q G) (g_h0 : G h0) : ∀ (f : Nat) (v1 : St) (v2 : Int32) (v3 : Int32), Q v1 → LkP Q (fn_X16_listEnd_L13 F sh n r_2 h0 f v1 v2 v3) := by
  intro f
  induction f with
  | zero => intros; exact LkP.none
  | succ f_9 ih =>
    intro z_8 p_6 p_7 h_z_8
    exact (LkP.ite (LkP.ret h_z_8) (LkP.xc (lkp_fn_X16_typeEnd K h_z_8 g_h0) (fun z_11 r_12 h_z_11 => (ih _ _ _ h_z_11 ))))
theorem lkp_fn_X16_listEnd {F : Nat} {sh : Nat → Nat × Nat} {n : Nat} {z : St} {h0 : Nat} {x0 : Int32} (K : Kp Q G) (h_z : Q z) (g_h0 : G h0) : LkP Q (fn_X16_listEnd F sh n z h0 x0) := by
  unfold fn_X16_listEnd
  exact (LkP.xg (LkP.xc (lkp_fn_X16_byteAt K h_z g_h0) (fun z_1 r_2 h_z_1 => (LkP.ltv (fun v_5 => (lkp_fn_X16_listEnd_L13 K g_h0 _ _ _ _ h_z_1 ))))))
theorem lkp_fn_X3_takeReference {F : Nat} {sh : Nat → Nat × Nat} {n : Nat} {z : St} {h0 : Nat} {x0 : Int32} (K : Kp Q G) (h_z : Q z) (g_h0 : G h0) : LkP Q (fn_X3_takeReference F sh n z h0 x0) := by
  unfold fn_X3_takeReference
  exact (LkP.xg (LkP.xc (lkp_fn_X3_take K h_z g_h0) (fun z_1 r_2 h_z_1 => (LkP.xc (lkp_fn_X5_isReference K h_z_1) (fun z_5 r_6 h_z_5 => (LkP.ite (LkP.xc (lkp_fn_X3_fail K h_z_5 g_h0) (fun z_25 _ h_z_25 => (LkP.xc (lkp_fn_X5_pointee K h_z_25) (fun z_27 r_28 h_z_27 => (LkP.ret h_z_27))))) (LkP.ite (LkP.xc (lkp_fn_X5_pointee K h_z_5) (fun z_10 r_11 h_z_10 => (LkP.ret h_z_10))) (LkP.xc (lkp_fn_X3_writes K h_z_5) (fun z_13 r_14 h_z_13 => (LkP.ite (LkP.xc (lkp_fn_X3_fail K h_z_13 g_h0) (fun z_20 _ h_z_20 => (LkP.xc (lkp_fn_X5_pointee K h_z_20) (fun z_22 r_23 h_z_22 => (LkP.ret h_z_22))))) (LkP.xc (lkp_fn_X5_pointee K h_z_13) (fun z_17 r_18 h_z_17 => (LkP.ret h_z_17)))))))))))))
theorem lkp_fn_X16_typeAt_L5 {F : Nat} {sh : Nat → Nat × Nat} {n : Nat} {h0 : Nat} {x0 : Int32} (K : Kp Q G) (g_h0 : G h0) : ∀ (f : Nat) (v1 : St) (v2 : Int64) (v3 : Int32), Q v1 → LkP Q (fn_X16_typeAt_L5 F sh n h0 x0 f v1 v2 v3) := by
  intro f
  induction f with
  | zero => intros; exact LkP.none
  | succ f_4 ih =>
    intro z_3 p_1 p_2 h_z_3
    exact (LkP.xg (LkP.xc (lkp_fn_X16_typeEnd K h_z_3 g_h0) (fun z_5 r_6 h_z_5 => (LkP.ite (LkP.ret h_z_5) (LkP.xc (lkp_fn_X16_byteAt K h_z_5 g_h0) (fun z_10 r_11 h_z_10 => (LkP.ltv (fun v_13 => (ih _ _ _ h_z_10 )))))))))
theorem lkp_fn_X16_typeAt {F : Nat} {sh : Nat → Nat × Nat} {n : Nat} {z : St} {h0 : Nat} {x0 : Int32} (K : Kp Q G) (h_z : Q z) (g_h0 : G h0) : LkP Q (fn_X16_typeAt F sh n z h0 x0) := by
  unfold fn_X16_typeAt
  exact (lkp_fn_X16_typeAt_L5 K g_h0 _ _ _ _ h_z )
theorem lkp_fn_X18_makeCoin {F : Nat} {sh : Nat → Nat × Nat} {n : Nat} {z : St} {h0 : Nat} {x0 : Int64} (K : Kp Q G) (h_z : Q z) (g_h0 : G h0) : LkP Q (fn_X18_makeCoin F sh n z h0 x0) := by
  unfold fn_X18_makeCoin
  exact (LkP.xg (LkP.xl (fun k_2 q => have g_k_2 := K.2.2.2.2.2 _ _ _ _ h_z g_h0 q; (LkP.xg (LkP.xc (lkp_fn_X15_make K h_z g_k_2) (fun z_3 r_4 h_z_3 => (LkP.xl (fun k_7 q => have g_k_7 := K.2.2.2.2.2 _ _ _ _ h_z_3 g_h0 q; (LkP.xl (fun k_8 q => have g_k_8 := K.2.2.2.2.2 _ _ _ _ h_z_3 g_h0 q; (LkP.xg (LkP.xc (lkp_fn_X15_make K h_z_3 g_k_8) (fun z_9 r_10 h_z_9 => (LkP.xg (LkP.xc (lkp_fn_X15_add K h_z_9 g_k_7) (fun z_13 _ h_z_13 => (LkP.xc (lkp_fn_X18_push K h_z_13 g_h0) (fun z_16 _ h_z_16 => (LkP.ret h_z_16)))))))))))))))))))
theorem lkp_fn_X3_come {F : Nat} {sh : Nat → Nat × Nat} {n : Nat} {z : St} {h0 : Nat} {x0 : Int32} (K : Kp Q G) (h_z : Q z) (g_h0 : G h0) : LkP Q (fn_X3_come F sh n z h0 x0) := by
  unfold fn_X3_come
  exact (LkP.ite (LkP.ret h_z) (LkP.ite (LkP.ret h_z) (LkP.xg (LkP.xl (fun k_4 q => have g_k_4 := K.2.2.2.2.2 _ _ _ _ h_z g_h0 q; (LkP.xg (LkP.ite (LkP.ret h_z) (LkP.ite (LkP.xc (lkp_fn_X3_comeBack K h_z g_h0) (fun z_8 _ h_z_8 => (LkP.ret h_z_8))) (LkP.xc (lkp_fn_X3_join K h_z g_h0) (fun z_10 _ h_z_10 => (LkP.ret h_z_10)))))))))))
theorem lkp_fn_X3_takeReferenceTo {F : Nat} {sh : Nat → Nat × Nat} {n : Nat} {z : St} {h0 : Nat} {x0 : Int64} {x1 : Int32} (K : Kp Q G) (h_z : Q z) (g_h0 : G h0) : LkP Q (fn_X3_takeReferenceTo F sh n z h0 x0 x1) := by
  unfold fn_X3_takeReferenceTo
  exact (LkP.xg (LkP.xc (lkp_fn_X3_take K h_z g_h0) (fun z_1 r_2 h_z_1 => (LkP.xc (lkp_fn_X5_isReference K h_z_1) (fun z_5 r_6 h_z_5 => (LkP.ite (LkP.xc (lkp_fn_X3_fail K h_z_5 g_h0) (fun z_9 _ h_z_9 => (LkP.ret h_z_9))) (LkP.xc (lkp_fn_X5_pointee K h_z_5) (fun z_11 r_12 h_z_11 => (LkP.ite (LkP.ite (LkP.ret h_z_11) (LkP.xc (lkp_fn_X3_writes K h_z_11) (fun z_16 r_17 h_z_16 => (LkP.ite (LkP.xc (lkp_fn_X3_fail K h_z_16 g_h0) (fun z_20 _ h_z_20 => (LkP.ret h_z_20))) (LkP.ret h_z_16))))) (LkP.xc (lkp_fn_X3_fail K h_z_11 g_h0) (fun z_22 _ h_z_22 => (LkP.ret h_z_22))))))))))))
theorem lkp_fn_X6_readOwnStructure {F : Nat} {sh : Nat → Nat × Nat} {n : Nat} {z : St} {h0 : Nat} (K : Kp Q G) (h_z : Q z) (g_h0 : G h0) : LkP Q (fn_X6_readOwnStructure F sh n z h0) := by
  unfold fn_X6_readOwnStructure
  exact (LkP.xg (LkP.ltv (fun v_2 => (LkP.xl (fun k_3 q => have g_k_3 := K.2.2.2.2.2 _ _ _ _ h_z g_h0 q; (LkP.xg (LkP.xc (lkp_fn_X6_readJudged K h_z g_h0) (fun z_5 r_6 h_z_5 => (LkP.ite (LkP.ret h_z_5) (LkP.xl (fun k_9 q => have g_k_9 := K.2.2.2.2.2 _ _ _ _ h_z_5 g_h0 q; (LkP.xg (LkP.ite (LkP.ret h_z_5) (LkP.xc (lkp_fn_X6_fail K h_z_5 g_h0) (fun z_12 _ h_z_12 => (LkP.ret h_z_12))))))))))))))))
theorem lkp_fn_X11_resource {F : Nat} {sh : Nat → Nat × Nat} {n : Nat} {z : St} {h0 : Nat} {x0 : Int64} {x1 : Int32} {x2 : Int32} (K : Kp Q G) (h_z : Q z) (g_h0 : G h0) : LkP Q (fn_X11_resource F sh n z h0 x0 x1 x2) := by
  unfold fn_X11_resource
  exact (LkP.xg (LkP.lts (K.1 _ _ _ _ h_z g_h0) (fun z_3 h_z_3 => (LkP.xl (fun k_4 q => have g_k_4 := K.2.2.2.2.2 _ _ _ _ h_z_3 g_h0 q; (LkP.xg (LkP.xc (lkp_fn_X7_findResource K h_z_3 g_k_4) (fun z_5 r_6 h_z_5 => (LkP.ite (LkP.xl (fun k_10 q => have g_k_10 := K.2.2.2.2.2 _ _ _ _ h_z_5 g_h0 q; (LkP.xl (fun k_11 q => have g_k_11 := K.2.2.2.2.2 _ _ _ _ h_z_5 g_h0 q; (LkP.xg (LkP.xc (lkp_fn_X7_writeBytes K h_z_5 g_k_10 g_k_11) (fun z_12 r_13 h_z_12 => (LkP.lts (K.1 _ _ _ _ h_z_12 g_h0) (fun z_17 h_z_17 => (LkP.ret h_z_17)))))))))) (LkP.ret h_z_5))))))))))
theorem lkp_fn_X6_readBeginning_B30 {F : Nat} {sh : Nat → Nat × Nat} {n : Nat} {p_1 : Int32} {ko2 : St → Int32 → Option (St × Unit)} {z_19 : St} (K : Kp Q G) (h_z_19 : Q z_19) (hko_ko2 : ∀ (w0 : St) (w1 : Int32), Q w0 → LkP Q (ko2 w0 w1)) : LkP Q (fn_X6_readBeginning_B30 F sh n p_1 ko2 z_19) := by
  unfold fn_X6_readBeginning_B30
  exact (hko_ko2 _ _ h_z_19 )
theorem lkp_fn_X6_readBeginning_L2 {F : Nat} {sh : Nat → Nat × Nat} {n : Nat} {h0 : Nat} (K : Kp Q G) (g_h0 : G h0) : ∀ (f : Nat) (v1 : St) (v2 : Int32), Q v1 → LkP Q (fn_X6_readBeginning_L2 F sh n h0 f v1 v2) := by
  intro f
  induction f with
  | zero => intros; exact LkP.none
  | succ f_3 ih =>
    intro z_2 p_1 h_z_2
    exact (LkP.ite (LkP.xg (LkP.xl (fun k_6 q => have g_k_6 := K.2.2.2.2.2 _ _ _ _ h_z_2 g_h0 q; (LkP.xc (lkp_fn_X6_readShort K h_z_2 g_h0) (fun z_7 r_8 h_z_7 => (LkP.xg (LkP.lts (K.1 _ _ _ _ h_z_7 g_k_6) (fun z_12 h_z_12 => (LkP.ret h_z_12))))))))) (LkP.xg (LkP.ltv (fun v_14 => (LkP.xc (lkp_fn_X6_readByte K h_z_2 g_h0) (fun z_15 r_16 h_z_15 => (LkP.xb (fun v_18 => (LkP.ite (lkp_fn_X6_readBeginning_B30 K h_z_15 (fun z9 q1 hk_z9 => (ih _ _ hk_z9 ))) (LkP.xc (lkp_fn_X6_fail K h_z_15 g_h0) (fun z_21 _ h_z_21 => (lkp_fn_X6_readBeginning_B30 K h_z_21 (fun z9 q1 hk_z9 => (ih _ _ hk_z9 ))))))))))))))
theorem lkp_fn_X6_readBeginning {F : Nat} {sh : Nat → Nat × Nat} {n : Nat} {z : St} {h0 : Nat} (K : Kp Q G) (h_z : Q z) (g_h0 : G h0) : LkP Q (fn_X6_readBeginning F sh n z h0) := by
  unfold fn_X6_readBeginning
  exact (lkp_fn_X6_readBeginning_L2 K g_h0 _ _ _ h_z )
theorem lkp_fn_X16_lookType {F : Nat} {sh : Nat → Nat × Nat} {n : Nat} {z : St} {h0 : Nat} {x0 : Int32} (K : Kp Q G) (h_z : Q z) (g_h0 : G h0) : LkP Q (fn_X16_lookType F sh n z h0 x0) := by
  unfold fn_X16_lookType
  exact (LkP.xg (LkP.xc (lkp_fn_X16_typeEnd K h_z g_h0) (fun z_1 r_2 h_z_1 => (LkP.xc (lkp_fn_X16_isStructureType K h_z_1 g_h0) (fun z_5 r_6 h_z_5 => (LkP.ite (LkP.ret h_z_5) (LkP.xc (lkp_fn_X16_byteAt K h_z_5 g_h0) (fun z_9 r_10 h_z_9 => (LkP.ite (LkP.ret h_z_9) (LkP.xc (lkp_fn_X16_fail K h_z_9 g_h0) (fun z_13 _ h_z_13 => (LkP.ret h_z_13))))))))))))
theorem lkp_fn_X16_count_B37 {F : Nat} {sh : Nat → Nat × Nat} {n : Nat} {h0 : Nat} {r_2 : Int32} {z_8 : St} (K : Kp Q G) (h_z_8 : Q z_8) (g_h0 : G h0) : LkP Q (fn_X16_count_B37 F sh n h0 r_2 z_8) := by
  unfold fn_X16_count_B37
  exact (LkP.xc (lkp_fn_X16_isGood K h_z_8 g_h0) (fun z_9 r_10 h_z_9 => (LkP.ite (LkP.ret h_z_9) (LkP.xc (lkp_fn_X16_byteAt K h_z_9 g_h0) (fun z_13 r_14 h_z_13 => (LkP.ret h_z_13))))))
theorem lkp_fn_X16_count_B31 {F : Nat} {sh : Nat → Nat × Nat} {n : Nat} {h0 : Nat} {r_2 : Int32} {z_20 : St} (K : Kp Q G) (h_z_20 : Q z_20) (g_h0 : G h0) : LkP Q (fn_X16_count_B31 F sh n h0 r_2 z_20) := by
  unfold fn_X16_count_B31
  exact (LkP.xc (lkp_fn_X16_fail K h_z_20 g_h0) (fun z_21 _ h_z_21 => (lkp_fn_X16_count_B37 K h_z_21 g_h0)))
theorem lkp_fn_X16_count {F : Nat} {sh : Nat → Nat × Nat} {n : Nat} {z : St} {h0 : Nat} {x0 : Int32} {x1 : Int32} (K : Kp Q G) (h_z : Q z) (g_h0 : G h0) : LkP Q (fn_X16_count F sh n z h0 x0 x1) := by
  unfold fn_X16_count
  exact (LkP.xg (LkP.xc (lkp_fn_X16_over K h_z g_h0) (fun z_1 r_2 h_z_1 => (LkP.xc (lkp_fn_X16_isGood K h_z_1 g_h0) (fun z_5 r_6 h_z_5 => (LkP.ite (lkp_fn_X16_count_B37 K h_z_5 g_h0) (LkP.xc (lkp_fn_X16_byteAt K h_z_5 g_h0) (fun z_17 r_18 h_z_17 => (LkP.ite (lkp_fn_X16_count_B31 K h_z_17 g_h0) (LkP.xc (lkp_fn_X16_byteAt K h_z_17 g_h0) (fun z_24 r_25 h_z_24 => (LkP.ite (lkp_fn_X16_count_B37 K h_z_24 g_h0) (lkp_fn_X16_count_B31 K h_z_24 g_h0)))))))))))))
theorem lkp_fn_X4_withdraw {F : Nat} {sh : Nat → Nat × Nat} {n : Nat} {z : St} {h0 : Nat} {x0 : Int64} (K : Kp Q G) (h_z : Q z) (g_h0 : G h0) : LkP Q (fn_X4_withdraw F sh n z h0 x0) := by
  unfold fn_X4_withdraw
  exact (LkP.xg (LkP.xl (fun k_2 q => have g_k_2 := K.2.2.2.2.2 _ _ _ _ h_z g_h0 q; (LkP.xg (LkP.xl (fun k_4 q => have g_k_4 := K.2.2.2.2.2 _ _ _ _ h_z g_k_2 q; (LkP.xg (LkP.xc (lkp_fn_X10_below K h_z) (fun z_6 r_7 h_z_6 => (LkP.ite (LkP.xc (lkp_fn_X4_popOf K h_z_6 g_h0) (fun z_10 r_11 h_z_10 => (LkP.xl (fun k_13 q => have g_k_13 := K.2.2.2.2.2 _ _ _ _ h_z_10 g_h0 q; (LkP.xg (LkP.xl (fun k_15 q => have g_k_15 := K.2.2.2.2.2 _ _ _ _ h_z_10 g_k_13 q; (LkP.xg (LkP.xg (LkP.lts (K.2.1 _ _ _ _ h_z_10 g_k_15) (fun z_19 h_z_19 => (LkP.xc (lkp_fn_X4_pushNumber K h_z_19 g_h0) (fun z_20 _ h_z_20 => (LkP.ret h_z_20)))))))))))))) (LkP.xc (lkp_fn_X4_end K h_z_6 g_h0) (fun z_22 _ h_z_22 => (LkP.ret h_z_22)))))))))))))
theorem lkp_fn_X8_fits_L19 {F : Nat} {sh : Nat → Nat × Nat} {n : Nat} {h0 : Nat} {x0 : Nat} (K : Kp Q G) (g_h0 : G h0) (g_x0 : G x0) : ∀ (f : Nat) (v1 : St) (v2 : Int32), Q v1 → LkP Q (fn_X8_fits_L19 F sh n h0 x0 f v1 v2) := by
  intro f
  induction f with
  | zero => intros; exact LkP.none
  | succ f_9 ih =>
    intro z_8 p_7 h_z_8
    exact (LkP.ite (LkP.ret h_z_8) (LkP.xc (lkp_fn_X5_takenType K h_z_8 g_x0) (fun z_11 r_12 h_z_11 => (LkP.xl (fun k_14 q => have g_k_14 := K.2.2.2.2.2 _ _ _ _ h_z_11 g_h0 q; (LkP.xg (LkP.ite (ih _ _ h_z_11 ) (LkP.ret h_z_11))))))))
theorem lkp_fn_X8_fits {F : Nat} {sh : Nat → Nat × Nat} {n : Nat} {z : St} {h0 : Nat} {x0 : Nat} (K : Kp Q G) (h_z : Q z) (g_h0 : G h0) (g_x0 : G x0) : LkP Q (fn_X8_fits F sh n z h0 x0) := by
  unfold fn_X8_fits
  exact (LkP.xg (LkP.xg (LkP.xc (lkp_fn_X5_takes K h_z g_x0) (fun z_2 r_3 h_z_2 => (LkP.ite (lkp_fn_X8_fits_L19 K g_h0 g_x0 _ _ _ h_z_2 ) (LkP.ret h_z_2))))))
theorem lkp_fn_X4_split {F : Nat} {sh : Nat → Nat × Nat} {n : Nat} {z : St} {h0 : Nat} {x0 : Int64} (K : Kp Q G) (h_z : Q z) (g_h0 : G h0) : LkP Q (fn_X4_split F sh n z h0 x0) := by
  unfold fn_X4_split
  exact (LkP.xg (LkP.xc (lkp_fn_X4_popOf K h_z g_h0) (fun z_1 r_2 h_z_1 => (LkP.xl (fun k_5 q => have g_k_5 := K.2.2.2.2.2 _ _ _ _ h_z_1 g_h0 q; (LkP.xg (LkP.xl (fun k_7 q => have g_k_7 := K.2.2.2.2.2 _ _ _ _ h_z_1 g_k_5 q; (LkP.xc (lkp_fn_X4_popOf K h_z_1 g_h0) (fun z_8 r_9 h_z_8 => (LkP.xg (LkP.ltv (fun v_12 => (LkP.xc (lkp_fn_X10_below K h_z_8) (fun z_13 r_14 h_z_13 => (LkP.ite (LkP.xc (lkp_fn_X4_pushNumber K h_z_13 g_h0) (fun z_17 _ h_z_17 => (LkP.xc (lkp_fn_X4_pushNumber K h_z_17 g_h0) (fun z_19 _ h_z_19 => (LkP.ret h_z_19))))) (LkP.xc (lkp_fn_X4_end K h_z_13 g_h0) (fun z_21 _ h_z_21 => (LkP.ret h_z_21)))))))))))))))))))
theorem lkp_fn_X0_finish_L47 {F : Nat} {sh : Nat → Nat × Nat} {n : Nat} {h0 : Nat} {v_2 : Int64} (K : Kp Q G) (g_h0 : G h0) : ∀ (f : Nat) (v1 : St) (v2 : Int32), Q v1 → LkP Q (fn_X0_finish_L47 F sh n h0 v_2 f v1 v2) := by
  intro f
  induction f with
  | zero => intros; exact LkP.none
  | succ f_11 ih =>
    intro z_10 p_9 h_z_10
    exact (LkP.ite (LkP.ret h_z_10) (LkP.xc (lkp_fn_X0_put K h_z_10 g_h0) (fun z_13 _ h_z_13 => (ih _ _ h_z_13 ))))
theorem lkp_fn_X0_finish_B44 {F : Nat} {sh : Nat → Nat × Nat} {n : Nat} {h0 : Nat} {v_2 : Int64} {z_8 : St} (K : Kp Q G) (h_z_8 : Q z_8) (g_h0 : G h0) : LkP Q (fn_X0_finish_B44 F sh n h0 v_2 z_8) := by
  unfold fn_X0_finish_B44
  exact (lkp_fn_X0_finish_L47 K g_h0 _ _ _ h_z_8 )
theorem lkp_fn_X0_finish_L18 {F : Nat} {sh : Nat → Nat × Nat} {n : Nat} {h0 : Nat} {v_2 : Int64} (K : Kp Q G) (g_h0 : G h0) : ∀ (f : Nat) (v1 : St) (v2 : Int32), Q v1 → LkP Q (fn_X0_finish_L18 F sh n h0 v_2 f v1 v2) := by
  intro f
  induction f with
  | zero => intros; exact LkP.none
  | succ f_7 ih =>
    intro z_6 p_5 h_z_6
    exact (LkP.ite (lkp_fn_X0_finish_B44 K h_z_6 g_h0) (LkP.ite (lkp_fn_X0_finish_B44 K h_z_6 g_h0) (LkP.xc (lkp_fn_X0_put K h_z_6 g_h0) (fun z_17 _ h_z_17 => (ih _ _ h_z_17 )))))
theorem lkp_fn_X0_finish {F : Nat} {sh : Nat → Nat × Nat} {n : Nat} {z : St} {h0 : Nat} (K : Kp Q G) (h_z : Q z) (g_h0 : G h0) : LkP Q (fn_X0_finish F sh n z h0) := by
  unfold fn_X0_finish
  exact (LkP.xg (LkP.ltv (fun v_2 => (LkP.xc (lkp_fn_X0_put K h_z g_h0) (fun z_3 _ h_z_3 => (lkp_fn_X0_finish_L18 K g_h0 _ _ _ h_z_3 ))))))
theorem lkp_fn_X4_borrowElement {F : Nat} {sh : Nat → Nat × Nat} {n : Nat} {z : St} {h0 : Nat} {x0 : Int32} {x1 : Int64} (K : Kp Q G) (h_z : Q z) (g_h0 : G h0) : LkP Q (fn_X4_borrowElement F sh n z h0 x0 x1) := by
  unfold fn_X4_borrowElement
  exact (LkP.xg (LkP.xl (fun k_2 q => have g_k_2 := K.2.2.2.2.2 _ _ _ _ h_z g_h0 q; (LkP.xg (LkP.xl (fun k_4 q => have g_k_4 := K.2.2.2.2.2 _ _ _ _ h_z g_k_2 q; (LkP.xc (lkp_fn_X4_popOf K h_z g_h0) (fun z_5 r_6 h_z_5 => (LkP.xg (LkP.ltv (fun v_9 => (LkP.xc (lkp_fn_X10_below K h_z_5) (fun z_10 r_11 h_z_10 => (LkP.ite (LkP.xc (lkp_fn_X4_end K h_z_10 g_h0) (fun z_30 _ h_z_30 => (LkP.ret h_z_30))) (LkP.xc (lkp_fn_X4_pop K h_z_10 g_h0) (fun z_14 r_15 h_z_14 => (LkP.xl (fun k_17 q => have g_k_17 := K.2.2.2.2.2 _ _ _ _ h_z_14 g_h0 q; (LkP.xg (LkP.xl (fun k_19 q => have g_k_19 := K.2.2.2.2.2 _ _ _ _ h_z_14 g_k_17 q; (LkP.xl (fun k_20 q => have g_k_20 := K.2.2.2.2.2 _ _ _ _ h_z_14 g_h0 q; (LkP.xg (LkP.xc (lkp_fn_X1_child K h_z_14 g_k_20) (fun z_21 r_22 h_z_21 => (LkP.xg (LkP.lts (K.2.1 _ _ _ _ h_z_21 g_k_19) (fun z_27 h_z_27 => (LkP.xc (lkp_fn_X4_push K h_z_27 g_h0) (fun z_28 _ h_z_28 => (LkP.ret h_z_28))))))))))))))))))))))))))))))))
theorem lkp_fn_X10_subtract_B48 {F : Nat} {sh : Nat → Nat × Nat} {n : Nat} {h0 : Nat} {z_9 : St} {x0 : Int64} {x1 : Int64} {z_14 : St} {p_13 : Int32} (K : Kp Q G) (h_z_9 : Q z_9) (h_z_14 : Q z_14) (g_h0 : G h0) : LkP Q (fn_X10_subtract_B48 F sh n h0 z_9 x0 x1 z_14 p_13) := by
  unfold fn_X10_subtract_B48
  exact (LkP.lts (K.2.1 _ _ _ _ h_z_14 g_h0) (fun z_16 h_z_16 => (LkP.lts (K.2.1 _ _ _ _ h_z_16 g_h0) (fun z_18 h_z_18 => (LkP.ret h_z_18)))))
theorem lkp_fn_X10_subtract_B22 {F : Nat} {sh : Nat → Nat × Nat} {n : Nat} {h0 : Nat} {x1 : Int64} {x0 : Int64} {z_6 : St} {p_5 : Int32} (K : Kp Q G) (h_z_6 : Q z_6) (g_h0 : G h0) : LkP Q (fn_X10_subtract_B22 F sh n h0 x1 x0 z_6 p_5) := by
  unfold fn_X10_subtract_B22
  exact (LkP.xg (LkP.lts (K.1 _ _ _ _ h_z_6 g_h0) (fun z_9 h_z_9 => (LkP.xc (lkp_fn_X10_below K h_z_9) (fun z_10 r_11 h_z_10 => (LkP.ite (lkp_fn_X10_subtract_B48 K h_z_9 h_z_10 g_h0) (lkp_fn_X10_subtract_B48 K h_z_9 h_z_10 g_h0)))))))
theorem lkp_fn_X10_subtract {F : Nat} {sh : Nat → Nat × Nat} {n : Nat} {z : St} {h0 : Nat} {x0 : Int64} {x1 : Int64} (K : Kp Q G) (h_z : Q z) (g_h0 : G h0) : LkP Q (fn_X10_subtract F sh n z h0 x0 x1) := by
  unfold fn_X10_subtract
  exact (LkP.xg (LkP.xc (lkp_fn_X10_compare K h_z) (fun z_2 r_3 h_z_2 => (LkP.ite (lkp_fn_X10_subtract_B22 K h_z_2 g_h0) (lkp_fn_X10_subtract_B22 K h_z_2 g_h0)))))
theorem lkp_fn_X17_add_L4 {F : Nat} {sh : Nat → Nat × Nat} {n : Nat} {h0 : Nat} {x0 : Int32} (K : Kp Q G) (g_h0 : G h0) : ∀ (f : Nat) (v1 : St) (v2 : Int32) (v3 : Int32), Q v1 → LkP Q (fn_X17_add_L4 F sh n h0 x0 f v1 v2 v3) := by
  intro f
  induction f with
  | zero => intros; exact LkP.none
  | succ f_4 ih =>
    intro z_3 p_1 p_2 h_z_3
    exact (LkP.ite (LkP.xg (LkP.xc (lkp_fn_X17_result K h_z_3 g_h0) (fun z_6 r_7 h_z_6 => (LkP.xg (LkP.ret h_z_6))))) (LkP.xg (LkP.xl (fun k_12 q => have g_k_12 := K.2.2.2.2.2 _ _ _ _ h_z_3 g_h0 q; (LkP.xg (LkP.xl (fun k_14 q => have g_k_14 := K.2.2.2.2.2 _ _ _ _ h_z_3 g_h0 q; (LkP.xg (LkP.ltv (fun v_16 => (LkP.xl (fun k_17 q => have g_k_17 := K.2.2.2.2.2 _ _ _ _ h_z_3 g_h0 q; (LkP.xg (LkP.lts (K.1 _ _ _ _ h_z_3 g_k_17) (fun z_20 h_z_20 => (LkP.ltv (fun v_21 => (ih _ _ _ h_z_20 ))))))))))))))))))
theorem lkp_fn_X17_add {F : Nat} {sh : Nat → Nat × Nat} {n : Nat} {z : St} {h0 : Nat} {x0 : Int32} (K : Kp Q G) (h_z : Q z) (g_h0 : G h0) : LkP Q (fn_X17_add F sh n z h0 x0) := by
  unfold fn_X17_add
  exact (lkp_fn_X17_add_L4 K g_h0 _ _ _ _ h_z )
theorem lkp_fn_X4_pushWide_B10 {F : Nat} {sh : Nat → Nat × Nat} {n : Nat} {h0 : Nat} {z_1 : St} (K : Kp Q G) (h_z_1 : Q z_1) (g_h0 : G h0) : LkP Q (fn_X4_pushWide_B10 F sh n h0 z_1) := by
  unfold fn_X4_pushWide_B10
  exact (LkP.xg (LkP.xl (fun k_3 q => have g_k_3 := K.2.2.2.2.2 _ _ _ _ h_z_1 g_h0 q; (LkP.xg (LkP.lts (K.1 _ _ _ _ h_z_1 g_k_3) (fun z_6 h_z_6 => (LkP.ret h_z_6)))))))
theorem lkp_fn_X4_pushWide_B47 {F : Nat} {sh : Nat → Nat × Nat} {n : Nat} {h0 : Nat} {x0 : Int32} {z_9 : St} (K : Kp Q G) (h_z_9 : Q z_9) (g_h0 : G h0) : LkP Q (fn_X4_pushWide_B47 F sh n h0 x0 z_9) := by
  unfold fn_X4_pushWide_B47
  exact (LkP.xg (LkP.xl (fun k_11 q => have g_k_11 := K.2.2.2.2.2 _ _ _ _ h_z_9 g_h0 q; (LkP.xg (LkP.xl (fun k_13 q => have g_k_13 := K.2.2.2.2.2 _ _ _ _ h_z_9 g_h0 q; (LkP.xg (LkP.xc (lkp_fn_X4_pushNumber K h_z_9 g_h0) (fun z_15 _ h_z_15 => (LkP.ret h_z_15))))))))))
theorem lkp_fn_X4_pushWide {F : Nat} {sh : Nat → Nat × Nat} {n : Nat} {z : St} {h0 : Nat} {x0 : Int32} (K : Kp Q G) (h_z : Q z) (g_h0 : G h0) : LkP Q (fn_X4_pushWide F sh n z h0 x0) := by
  unfold fn_X4_pushWide
  exact (LkP.ite (lkp_fn_X4_pushWide_B10 K h_z g_h0) (LkP.ite (LkP.ite (lkp_fn_X4_pushWide_B47 K h_z g_h0) (LkP.xg (LkP.xl (fun k_19 q => have g_k_19 := K.2.2.2.2.2 _ _ _ _ h_z g_h0 q; (LkP.xg (LkP.xc (lkp_fn_X10_fits K h_z g_k_19) (fun z_20 r_21 h_z_20 => (LkP.ite (LkP.xc (lkp_fn_X4_end K h_z_20 g_h0) (fun z_25 _ h_z_25 => (LkP.ret h_z_25))) (lkp_fn_X4_pushWide_B47 K h_z_20 g_h0))))))))) (lkp_fn_X4_pushWide_B10 K h_z g_h0)))
theorem lkp_fn_X17_subtract_B48 {F : Nat} {sh : Nat → Nat × Nat} {n : Nat} {p_2 : Int32} {ko4 : St → Int32 → Int32 → Option (St × Int32)} {z_22 : St} {p_21 : Int32} (K : Kp Q G) (h_z_22 : Q z_22) (hko_ko4 : ∀ (w0 : St) (w1 : Int32) (w2 : Int32), Q w0 → LkP Q (ko4 w0 w1 w2)) : LkP Q (fn_X17_subtract_B48 F sh n p_2 ko4 z_22 p_21) := by
  unfold fn_X17_subtract_B48
  exact (hko_ko4 _ _ _ h_z_22 )
theorem lkp_fn_X17_subtract_L4 {F : Nat} {sh : Nat → Nat × Nat} {n : Nat} {h0 : Nat} {x0 : Int32} (K : Kp Q G) (g_h0 : G h0) : ∀ (f : Nat) (v1 : St) (v2 : Int32) (v3 : Int32), Q v1 → LkP Q (fn_X17_subtract_L4 F sh n h0 x0 f v1 v2 v3) := by
  intro f
  induction f with
  | zero => intros; exact LkP.none
  | succ f_4 ih =>
    intro z_3 p_1 p_2 h_z_3
    exact (LkP.ite (LkP.xg (LkP.xc (lkp_fn_X17_result K h_z_3 g_h0) (fun z_6 r_7 h_z_6 => (LkP.xg (LkP.ret h_z_6))))) (LkP.xg (LkP.xl (fun k_12 q => have g_k_12 := K.2.2.2.2.2 _ _ _ _ h_z_3 g_h0 q; (LkP.xg (LkP.xl (fun k_14 q => have g_k_14 := K.2.2.2.2.2 _ _ _ _ h_z_3 g_h0 q; (LkP.xg (LkP.ltv (fun v_16 => (LkP.xl (fun k_17 q => have g_k_17 := K.2.2.2.2.2 _ _ _ _ h_z_3 g_h0 q; (LkP.xg (LkP.lts (K.1 _ _ _ _ h_z_3 g_k_17) (fun z_20 h_z_20 => (LkP.ite (lkp_fn_X17_subtract_B48 K h_z_20 (fun z9 q2 q3 hk_z9 => (ih _ _ _ hk_z9 ))) (lkp_fn_X17_subtract_B48 K h_z_20 (fun z9 q2 q3 hk_z9 => (ih _ _ _ hk_z9 )))))))))))))))))))
theorem lkp_fn_X17_subtract {F : Nat} {sh : Nat → Nat × Nat} {n : Nat} {z : St} {h0 : Nat} {x0 : Int32} (K : Kp Q G) (h_z : Q z) (g_h0 : G h0) : LkP Q (fn_X17_subtract F sh n z h0 x0) := by
  unfold fn_X17_subtract
  exact (lkp_fn_X17_subtract_L4 K g_h0 _ _ _ _ h_z )
theorem lkp_fn_X13_takeReference_B45 {F : Nat} {sh : Nat → Nat × Nat} {n : Nat} {h0 : Nat} {x1 : Int32} {z_9 : St} {p_8 : Int32} (K : Kp Q G) (h_z_9 : Q z_9) (g_h0 : G h0) : LkP Q (fn_X13_takeReference_B45 F sh n h0 x1 z_9 p_8) := by
  unfold fn_X13_takeReference_B45
  exact (LkP.xc (lkp_fn_X13_need K h_z_9 g_h0) (fun z_10 _ h_z_10 => (LkP.ite (LkP.xc (lkp_fn_X13_need K h_z_10 g_h0) (fun z_13 _ h_z_13 => (LkP.ret h_z_13))) (LkP.xc (lkp_fn_X13_writes K h_z_10) (fun z_15 r_16 h_z_15 => (LkP.ite (LkP.xc (lkp_fn_X13_need K h_z_15 g_h0) (fun z_19 _ h_z_19 => (LkP.ret h_z_19))) (LkP.xc (lkp_fn_X13_need K h_z_15 g_h0) (fun z_21 _ h_z_21 => (LkP.ret h_z_21)))))))))
theorem lkp_fn_X13_takeReference_B44 {F : Nat} {sh : Nat → Nat × Nat} {n : Nat} {h0 : Nat} {x1 : Int32} {z_23 : St} (K : Kp Q G) (h_z_23 : Q z_23) (g_h0 : G h0) : LkP Q (fn_X13_takeReference_B44 F sh n h0 x1 z_23) := by
  unfold fn_X13_takeReference_B44
  exact (lkp_fn_X13_takeReference_B45 K h_z_23 g_h0)
theorem lkp_fn_X13_takeReference_B40 {F : Nat} {sh : Nat → Nat × Nat} {n : Nat} {h0 : Nat} {x1 : Int32} {z_25 : St} (K : Kp Q G) (h_z_25 : Q z_25) (g_h0 : G h0) : LkP Q (fn_X13_takeReference_B40 F sh n h0 x1 z_25) := by
  unfold fn_X13_takeReference_B40
  exact (lkp_fn_X13_takeReference_B45 K h_z_25 g_h0)
theorem lkp_fn_X13_takeReference {F : Nat} {sh : Nat → Nat × Nat} {n : Nat} {z : St} {h0 : Nat} {x0 : Int64} {x1 : Int32} (K : Kp Q G) (h_z : Q z) (g_h0 : G h0) : LkP Q (fn_X13_takeReference F sh n z h0 x0 x1) := by
  unfold fn_X13_takeReference
  exact (LkP.xg (LkP.xc (lkp_fn_X13_take K h_z g_h0) (fun z_1 _ h_z_1 => (LkP.ite (LkP.xc (lkp_fn_X13_isReference K h_z_1) (fun z_5 r_6 h_z_5 => (LkP.ite (lkp_fn_X13_takeReference_B44 K h_z_5 g_h0) (LkP.ite (lkp_fn_X13_takeReference_B40 K h_z_5 g_h0) (LkP.xc (lkp_fn_X13_pointed K h_z_5) (fun z_27 r_28 h_z_27 => (LkP.ite (lkp_fn_X13_takeReference_B40 K h_z_27 g_h0) (lkp_fn_X13_takeReference_B44 K h_z_27 g_h0)))))))) (LkP.ret h_z_1)))))
theorem lkp_fn_X18_takeAny_B44 {F : Nat} {sh : Nat → Nat × Nat} {n : Nat} {h0 : Nat} {z_5 : St} (K : Kp Q G) (h_z_5 : Q z_5) (g_h0 : G h0) : LkP Q (fn_X18_takeAny_B44 F sh n h0 z_5) := by
  unfold fn_X18_takeAny_B44
  exact (LkP.xc (lkp_fn_X18_goesOn K h_z_5 g_h0) (fun z_6 r_7 h_z_6 => (LkP.ite (LkP.ret h_z_6) (LkP.lts (K.1 _ _ _ _ h_z_6 g_h0) (fun z_11 h_z_11 => (LkP.xl (fun k_12 q => have g_k_12 := K.2.2.2.2.2 _ _ _ _ h_z_11 g_h0 q; (LkP.xg (LkP.lts (K.1 _ _ _ _ h_z_11 g_h0) (fun z_15 h_z_15 => (LkP.ret h_z_15)))))))))))
theorem lkp_fn_X18_takeAny_B40 {F : Nat} {sh : Nat → Nat × Nat} {n : Nat} {h0 : Nat} {z_19 : St} (K : Kp Q G) (h_z_19 : Q z_19) (g_h0 : G h0) : LkP Q (fn_X18_takeAny_B40 F sh n h0 z_19) := by
  unfold fn_X18_takeAny_B40
  exact (LkP.xc (lkp_fn_X18_slip K h_z_19 g_h0) (fun z_20 _ h_z_20 => (lkp_fn_X18_takeAny_B44 K h_z_20 g_h0)))
theorem lkp_fn_X18_takeAny {F : Nat} {sh : Nat → Nat × Nat} {n : Nat} {z : St} {h0 : Nat} {x0 : Int32} (K : Kp Q G) (h_z : Q z) (g_h0 : G h0) : LkP Q (fn_X18_takeAny F sh n z h0 x0) := by
  unfold fn_X18_takeAny
  exact (LkP.xg (LkP.xc (lkp_fn_X18_goesOn K h_z g_h0) (fun z_1 r_2 h_z_1 => (LkP.ite (lkp_fn_X18_takeAny_B44 K h_z_1 g_h0) (LkP.xl (fun k_17 q => have g_k_17 := K.2.2.2.2.2 _ _ _ _ h_z_1 g_h0 q; (LkP.xg (LkP.ite (lkp_fn_X18_takeAny_B40 K h_z_1 g_h0) (LkP.xl (fun k_23 q => have g_k_23 := K.2.2.2.2.2 _ _ _ _ h_z_1 g_h0 q; (LkP.xg (LkP.ite (lkp_fn_X18_takeAny_B44 K h_z_1 g_h0) (lkp_fn_X18_takeAny_B40 K h_z_1 g_h0)))))))))))))
theorem lkp_fn_X5_sameLists_L31 {F : Nat} {sh : Nat → Nat × Nat} {n : Nat} {h0 : Nat} {x0 : Int32} {x1 : Nat} {x2 : Int32} (K : Kp Q G) (g_h0 : G h0) (g_x1 : G x1) : ∀ (f : Nat) (v1 : St) (v2 : Int32), Q v1 → LkP Q (fn_X5_sameLists_L31 F sh n h0 x0 x1 x2 f v1 v2) := by
  intro f
  induction f with
  | zero => intros; exact LkP.none
  | succ f_19 ih =>
    intro z_18 p_17 h_z_18
    exact (LkP.xc (lkp_fn_X5_takes K h_z_18 g_h0) (fun z_20 r_21 h_z_20 => (LkP.xc (lkp_fn_X5_gives K h_z_20 g_h0) (fun z_23 r_24 h_z_23 => (LkP.ite (LkP.ret h_z_23) (LkP.xc (lkp_fn_X5_takenType K h_z_23 g_h0) (fun z_27 r_28 h_z_27 => (LkP.xc (lkp_fn_X5_takenType K h_z_27 g_x1) (fun z_30 r_31 h_z_30 => (LkP.xc (lkp_fn_X5_sameType K h_z_30 g_h0 g_x1) (fun z_33 r_34 h_z_33 => (LkP.ite (LkP.ret h_z_33) (ih _ _ h_z_33 )))))))))))))
theorem lkp_fn_X5_sameLists {F : Nat} {sh : Nat → Nat × Nat} {n : Nat} {z : St} {h0 : Nat} {x0 : Int32} {x1 : Nat} {x2 : Int32} (K : Kp Q G) (h_z : Q z) (g_h0 : G h0) (g_x1 : G x1) : LkP Q (fn_X5_sameLists F sh n z h0 x0 x1 x2) := by
  unfold fn_X5_sameLists
  exact (LkP.xg (LkP.xc (lkp_fn_X5_takes K h_z g_h0) (fun z_1 r_2 h_z_1 => (LkP.xg (LkP.xc (lkp_fn_X5_takes K h_z_1 g_x1) (fun z_5 r_6 h_z_5 => (LkP.ite (LkP.xc (lkp_fn_X5_gives K h_z_5 g_h0) (fun z_10 r_11 h_z_10 => (LkP.xc (lkp_fn_X5_gives K h_z_10 g_x1) (fun z_13 r_14 h_z_13 => (LkP.ite (lkp_fn_X5_sameLists_L31 K g_h0 g_x1 _ _ _ h_z_13 ) (LkP.ret h_z_13)))))) (LkP.ret h_z_5))))))))
theorem lkp_fn_X4_exchange {F : Nat} {sh : Nat → Nat × Nat} {n : Nat} {z : St} {h0 : Nat} {x0 : Int32} {x1 : Int64} (K : Kp Q G) (h_z : Q z) (g_h0 : G h0) : LkP Q (fn_X4_exchange F sh n z h0 x0 x1) := by
  unfold fn_X4_exchange
  exact (LkP.xg (LkP.xl (fun k_2 q => have g_k_2 := K.2.2.2.2.2 _ _ _ _ h_z g_h0 q; (LkP.xg (LkP.xl (fun k_4 q => have g_k_4 := K.2.2.2.2.2 _ _ _ _ h_z g_k_2 q; (LkP.xc (lkp_fn_X4_popOf K h_z g_h0) (fun z_5 r_6 h_z_5 => (LkP.xg (LkP.ltv (fun v_9 => (LkP.xl (fun k_10 q => have g_k_10 := K.2.2.2.2.2 _ _ _ _ h_z_5 g_h0 q; (LkP.xg (LkP.xl (fun k_12 q => have g_k_12 := K.2.2.2.2.2 _ _ _ _ h_z_5 g_k_10 q; (LkP.xc (lkp_fn_X4_popOf K h_z_5 g_h0) (fun z_13 r_14 h_z_13 => (LkP.xg (LkP.ltv (fun v_17 => (LkP.xc (lkp_fn_X10_below K h_z_13) (fun z_18 r_19 h_z_18 => (LkP.ite (LkP.xc (lkp_fn_X4_end K h_z_18 g_h0) (fun z_22 _ h_z_22 => (LkP.ret h_z_22))) (LkP.xc (lkp_fn_X10_below K h_z_18) (fun z_24 r_25 h_z_24 => (LkP.ite (LkP.xc (lkp_fn_X4_end K h_z_24 g_h0) (fun z_45 _ h_z_45 => (LkP.ret h_z_45))) (LkP.xc (lkp_fn_X4_pop K h_z_24 g_h0) (fun z_28 r_29 h_z_28 => (LkP.xl (fun k_31 q => have g_k_31 := K.2.2.2.2.2 _ _ _ _ h_z_28 g_h0 q; (LkP.xl (fun k_32 q => have g_k_32 := K.2.2.2.2.2 _ _ _ _ h_z_28 g_h0 q; (LkP.xg (LkP.xc (lkp_fn_X1_child K h_z_28 g_k_32) (fun z_33 r_34 h_z_33 => (LkP.xl (fun k_37 q => have g_k_37 := K.2.2.2.2.2 _ _ _ _ h_z_33 g_h0 q; (LkP.xg (LkP.xc (lkp_fn_X1_child K h_z_33 g_k_37) (fun z_38 r_39 h_z_38 => (LkP.xg (LkP.xc (lkp_fn_X1_swap K h_z_38 g_k_31) (fun z_42 _ h_z_42 => (LkP.ret h_z_42)))))))))))))))))))))))))))))))))))))))))))))
theorem lkp_fn_X13_push_B64 {F : Nat} {sh : Nat → Nat × Nat} {n : Nat} {k_16 : Nat} {z_15 : St} {h0 : Nat} {z_21 : St} {p_20 : Int32} (K : Kp Q G) (h_z_15 : Q z_15) (h_z_21 : Q z_21) (g_k_16 : G k_16) (g_h0 : G h0) : LkP Q (fn_X13_push_B64 F sh n k_16 z_15 h0 z_21 p_20) := by
  unfold fn_X13_push_B64
  exact (LkP.xg (LkP.lts (K.1 _ _ _ _ h_z_21 g_k_16) (fun z_24 h_z_24 => (LkP.lts (K.1 _ _ _ _ h_z_24 g_h0) (fun z_26 h_z_26 => (LkP.ite (LkP.ret h_z_26) (LkP.xc (lkp_fn_X13_fail K h_z_26 g_h0) (fun z_28 _ h_z_28 => (LkP.ret h_z_28)))))))))
theorem lkp_fn_X13_push_B63 {F : Nat} {sh : Nat → Nat × Nat} {n : Nat} {k_16 : Nat} {z_15 : St} {h0 : Nat} {z_30 : St} (K : Kp Q G) (h_z_15 : Q z_15) (h_z_30 : Q z_30) (g_k_16 : G k_16) (g_h0 : G h0) : LkP Q (fn_X13_push_B63 F sh n k_16 z_15 h0 z_30) := by
  unfold fn_X13_push_B63
  exact (lkp_fn_X13_push_B64 K h_z_15 h_z_30 g_k_16 g_h0)
theorem lkp_fn_X13_push_B38 {F : Nat} {sh : Nat → Nat × Nat} {n : Nat} {k_7 : Nat} {z_6 : St} {h0 : Nat} {x0 : Int64} {x2 : Int32} {z_12 : St} {p_11 : Int64} (K : Kp Q G) (h_z_6 : Q z_6) (h_z_12 : Q z_12) (g_k_7 : G k_7) (g_h0 : G h0) : LkP Q (fn_X13_push_B38 F sh n k_7 z_6 h0 x0 x2 z_12 p_11) := by
  unfold fn_X13_push_B38
  exact (LkP.xg (LkP.lts (K.2.1 _ _ _ _ h_z_12 g_k_7) (fun z_15 h_z_15 => (LkP.xl (fun k_16 q => have g_k_16 := K.2.2.2.2.2 _ _ _ _ h_z_15 g_h0 q; (LkP.xc (lkp_fn_X13_isReference K h_z_15) (fun z_17 r_18 h_z_17 => (LkP.ite (lkp_fn_X13_push_B63 K h_z_15 h_z_17 g_k_16 g_h0) (LkP.ite (lkp_fn_X13_push_B63 K h_z_15 h_z_17 g_k_16 g_h0) (lkp_fn_X13_push_B64 K h_z_15 h_z_17 g_k_16 g_h0))))))))))
theorem lkp_fn_X13_push {F : Nat} {sh : Nat → Nat × Nat} {n : Nat} {z : St} {h0 : Nat} {x0 : Int64} {x1 : Int64} {x2 : Int32} (K : Kp Q G) (h_z : Q z) (g_h0 : G h0) : LkP Q (fn_X13_push F sh n z h0 x0 x1 x2) := by
  unfold fn_X13_push
  exact (LkP.xg (LkP.ite (LkP.xl (fun k_3 q => have g_k_3 := K.2.2.2.2.2 _ _ _ _ h_z g_h0 q; (LkP.xg (LkP.lts (K.2.1 _ _ _ _ h_z g_k_3) (fun z_6 h_z_6 => (LkP.xl (fun k_7 q => have g_k_7 := K.2.2.2.2.2 _ _ _ _ h_z_6 g_h0 q; (LkP.xc (lkp_fn_X13_isReference K h_z_6) (fun z_8 r_9 h_z_8 => (LkP.ite (lkp_fn_X13_push_B38 K h_z_6 h_z_8 g_k_7 g_h0) (lkp_fn_X13_push_B38 K h_z_6 h_z_8 g_k_7 g_h0))))))))))) (LkP.ret h_z)))
theorem lkp_fn_X5_weakStructure_L38 {F : Nat} {sh : Nat → Nat × Nat} {n : Nat} {h0 : Nat} {p_1 : Int32} {v_11 : Int32} {ko2 : St → Int32 → Option (St × Int32)} (K : Kp Q G) (g_h0 : G h0) (hko_ko2 : ∀ (w0 : St) (w1 : Int32), Q w0 → LkP Q (ko2 w0 w1)) : ∀ (f : Nat) (v1 : St) (v2 : Int32), Q v1 → LkP Q (fn_X5_weakStructure_L38 F sh n h0 p_1 v_11 ko2 f v1 v2) := by
  intro f
  induction f with
  | zero => intros; exact LkP.none
  | succ f_14 ih =>
    intro z_13 p_12 h_z_13
    exact (LkP.xc (lkp_fn_X5_fieldCount K h_z_13 g_h0) (fun z_15 r_16 h_z_15 => (LkP.ite (hko_ko2 _ _ h_z_15 ) (LkP.xc (lkp_fn_X5_fieldType K h_z_15 g_h0) (fun z_19 r_20 h_z_19 => (LkP.xc (lkp_fn_X5_abilities K h_z_19 g_h0) (fun z_22 r_23 h_z_22 => (LkP.ite (ih _ _ h_z_22 ) (LkP.ret h_z_22)))))))))
theorem lkp_fn_X5_weakStructure_B33 {F : Nat} {sh : Nat → Nat × Nat} {n : Nat} {r_7 : Int32} {h0 : Nat} {p_1 : Int32} {ko2 : St → Int32 → Option (St × Int32)} {z_10 : St} {p_9 : Int32} (K : Kp Q G) (h_z_10 : Q z_10) (g_h0 : G h0) (hko_ko2 : ∀ (w0 : St) (w1 : Int32), Q w0 → LkP Q (ko2 w0 w1)) : LkP Q (fn_X5_weakStructure_B33 F sh n r_7 h0 p_1 ko2 z_10 p_9) := by
  unfold fn_X5_weakStructure_B33
  exact (LkP.ltv (fun v_11 => (lkp_fn_X5_weakStructure_L38 K g_h0 (fun z9 q1 hk_z9 => (hko_ko2 _ _ hk_z9 )) _ _ _ h_z_10 )))
theorem lkp_fn_X5_weakStructure_L2 {F : Nat} {sh : Nat → Nat × Nat} {n : Nat} {h0 : Nat} (K : Kp Q G) (g_h0 : G h0) : ∀ (f : Nat) (v1 : St) (v2 : Int32), Q v1 → LkP Q (fn_X5_weakStructure_L2 F sh n h0 f v1 v2) := by
  intro f
  induction f with
  | zero => intros; exact LkP.none
  | succ f_3 ih =>
    intro z_2 p_1 h_z_2
    exact (LkP.xg (LkP.ite (LkP.ret h_z_2) (LkP.xc (lkp_fn_X5_structureColumn K h_z_2 g_h0) (fun z_6 r_7 h_z_6 => (LkP.ite (lkp_fn_X5_weakStructure_B33 K h_z_6 g_h0 (fun z9 q1 hk_z9 => (ih _ _ hk_z9 ))) (lkp_fn_X5_weakStructure_B33 K h_z_6 g_h0 (fun z9 q1 hk_z9 => (ih _ _ hk_z9 ))))))))
theorem lkp_fn_X5_weakStructure {F : Nat} {sh : Nat → Nat × Nat} {n : Nat} {z : St} {h0 : Nat} (K : Kp Q G) (h_z : Q z) (g_h0 : G h0) : LkP Q (fn_X5_weakStructure F sh n z h0) := by
  unfold fn_X5_weakStructure
  exact (lkp_fn_X5_weakStructure_L2 K g_h0 _ _ _ h_z )
theorem lkp_fn_X13_abilitiesFor_B81 {F : Nat} {sh : Nat → Nat × Nat} {n : Nat} {p_14 : Int32} {z_19 : St} {p_18 : Int32} (K : Kp Q G) (h_z_19 : Q z_19) : LkP Q (fn_X13_abilitiesFor_B81 F sh n p_14 z_19 p_18) := by
  unfold fn_X13_abilitiesFor_B81
  exact (LkP.ite (LkP.ret h_z_19) (LkP.ret h_z_19))
theorem lkp_fn_X13_abilitiesFor_B60 {F : Nat} {sh : Nat → Nat × Nat} {n : Nat} {p_14 : Int32} {h0 : Nat} {r_9 : Int32} {z_17 : St} {p_16 : Int32} (K : Kp Q G) (h_z_17 : Q z_17) (g_h0 : G h0) : LkP Q (fn_X13_abilitiesFor_B60 F sh n p_14 h0 r_9 z_17 p_16) := by
  unfold fn_X13_abilitiesFor_B60
  exact (LkP.ite (lkp_fn_X13_abilitiesFor_B81 K h_z_17) (LkP.xg (LkP.xl (fun k_23 q => have g_k_23 := K.2.2.2.2.2 _ _ _ _ h_z_17 g_h0 q; (LkP.xg (LkP.xc (lkp_fn_X16_abilitiesOf K h_z_17 g_k_23) (fun z_24 r_25 h_z_24 => (lkp_fn_X13_abilitiesFor_B81 K h_z_24))))))))
theorem lkp_fn_X13_abilitiesFor_B59 {F : Nat} {sh : Nat → Nat × Nat} {n : Nat} {p_14 : Int32} {h0 : Nat} {r_9 : Int32} {z_28 : St} (K : Kp Q G) (h_z_28 : Q z_28) (g_h0 : G h0) : LkP Q (fn_X13_abilitiesFor_B59 F sh n p_14 h0 r_9 z_28) := by
  unfold fn_X13_abilitiesFor_B59
  exact (lkp_fn_X13_abilitiesFor_B60 K h_z_28 g_h0)
theorem lkp_fn_X13_abilitiesFor_B38 {F : Nat} {sh : Nat → Nat × Nat} {n : Nat} {r_6 : Int32} {h0 : Nat} {r_9 : Int32} {x0 : Int64} {z_15 : St} {p_14 : Int32} (K : Kp Q G) (h_z_15 : Q z_15) (g_h0 : G h0) : LkP Q (fn_X13_abilitiesFor_B38 F sh n r_6 h0 r_9 x0 z_15 p_14) := by
  unfold fn_X13_abilitiesFor_B38
  exact (LkP.ite (lkp_fn_X13_abilitiesFor_B59 K h_z_15 g_h0) (LkP.xc (lkp_fn_X13_byteOf K h_z_15) (fun z_30 r_31 h_z_30 => (LkP.ite (lkp_fn_X13_abilitiesFor_B60 K h_z_30 g_h0) (lkp_fn_X13_abilitiesFor_B59 K h_z_30 g_h0)))))
theorem lkp_fn_X13_abilitiesFor {F : Nat} {sh : Nat → Nat × Nat} {n : Nat} {z : St} {h0 : Nat} {x0 : Int64} (K : Kp Q G) (h_z : Q z) (g_h0 : G h0) : LkP Q (fn_X13_abilitiesFor F sh n z h0 x0) := by
  unfold fn_X13_abilitiesFor
  exact (LkP.xc (lkp_fn_X13_isReference K h_z) (fun z_1 r_2 h_z_1 => (LkP.ite (LkP.xc (lkp_fn_X13_bytesOf K h_z_1) (fun z_5 r_6 h_z_5 => (LkP.xc (lkp_fn_X13_byteOf K h_z_5) (fun z_8 r_9 h_z_8 => (LkP.xc (lkp_fn_X13_byteOf K h_z_8) (fun z_11 r_12 h_z_11 => (LkP.ite (lkp_fn_X13_abilitiesFor_B38 K h_z_11 g_h0) (lkp_fn_X13_abilitiesFor_B38 K h_z_11 g_h0)))))))) (LkP.ret h_z_1))))
theorem lkp_fn_X3_isLive_B94 {F : Nat} {sh : Nat → Nat × Nat} {n : Nat} {p_6 : Int32} {ko54 : St → Int32 → Option (St × Int32)} {z_12 : St} (K : Kp Q G) (h_z_12 : Q z_12) (hko_ko54 : ∀ (w0 : St) (w1 : Int32), Q w0 → LkP Q (ko54 w0 w1)) : LkP Q (fn_X3_isLive_B94 F sh n p_6 ko54 z_12) := by
  unfold fn_X3_isLive_B94
  exact (hko_ko54 _ _ h_z_12 )
theorem lkp_fn_X3_isLive_L54 {F : Nat} {sh : Nat → Nat × Nat} {n : Nat} {h0 : Nat} {x0 : Int64} {x1 : Int32} (K : Kp Q G) (g_h0 : G h0) : ∀ (f : Nat) (v1 : St) (v2 : Int32), Q v1 → LkP Q (fn_X3_isLive_L54 F sh n h0 x0 x1 f v1 v2) := by
  intro f
  induction f with
  | zero => intros; exact LkP.none
  | succ f_8 ih =>
    intro z_7 p_6 h_z_7
    exact (LkP.ite (LkP.ret h_z_7) (LkP.xl (fun k_10 q => have g_k_10 := K.2.2.2.2.2 _ _ _ _ h_z_7 g_h0 q; (LkP.xg (LkP.ite (lkp_fn_X3_isLive_B94 K h_z_7 (fun z9 q4 hk_z9 => (ih _ _ hk_z9 ))) (LkP.ite (LkP.ret h_z_7) (LkP.xl (fun k_15 q => have g_k_15 := K.2.2.2.2.2 _ _ _ _ h_z_7 g_h0 q; (LkP.xg (LkP.xc (lkp_fn_X3_writes K h_z_7) (fun z_17 r_18 h_z_17 => (LkP.ite (lkp_fn_X3_isLive_B94 K h_z_17 (fun z9 q4 hk_z9 => (ih _ _ hk_z9 ))) (LkP.ret h_z_17)))))))))))))
theorem lkp_fn_X3_isLive_B45 {F : Nat} {sh : Nat → Nat × Nat} {n : Nat} {p_1 : Int32} {ko3 : St → Int32 → Option (St × Int32)} {z_23 : St} (K : Kp Q G) (h_z_23 : Q z_23) (hko_ko3 : ∀ (w0 : St) (w1 : Int32), Q w0 → LkP Q (ko3 w0 w1)) : LkP Q (fn_X3_isLive_B45 F sh n p_1 ko3 z_23) := by
  unfold fn_X3_isLive_B45
  exact (hko_ko3 _ _ h_z_23 )
theorem lkp_fn_X3_isLive_L3 {F : Nat} {sh : Nat → Nat × Nat} {n : Nat} {h0 : Nat} {x0 : Int64} {x1 : Int32} (K : Kp Q G) (g_h0 : G h0) : ∀ (f : Nat) (v1 : St) (v2 : Int32), Q v1 → LkP Q (fn_X3_isLive_L3 F sh n h0 x0 x1 f v1 v2) := by
  intro f
  induction f with
  | zero => intros; exact LkP.none
  | succ f_3 ih =>
    intro z_2 p_1 h_z_2
    exact (LkP.xg (LkP.ite (lkp_fn_X3_isLive_L54 K g_h0 _ _ _ h_z_2 ) (LkP.xl (fun k_21 q => have g_k_21 := K.2.2.2.2.2 _ _ _ _ h_z_2 g_h0 q; (LkP.xg (LkP.ite (lkp_fn_X3_isLive_B45 K h_z_2 (fun z9 q4 hk_z9 => (ih _ _ hk_z9 ))) (LkP.ite (LkP.ret h_z_2) (LkP.xl (fun k_26 q => have g_k_26 := K.2.2.2.2.2 _ _ _ _ h_z_2 g_h0 q; (LkP.xg (LkP.xc (lkp_fn_X3_writes K h_z_2) (fun z_28 r_29 h_z_28 => (LkP.ite (lkp_fn_X3_isLive_B45 K h_z_28 (fun z9 q4 hk_z9 => (ih _ _ hk_z9 ))) (LkP.ret h_z_28))))))))))))))
theorem lkp_fn_X3_isLive {F : Nat} {sh : Nat → Nat × Nat} {n : Nat} {z : St} {h0 : Nat} {x0 : Int64} {x1 : Int32} (K : Kp Q G) (h_z : Q z) (g_h0 : G h0) : LkP Q (fn_X3_isLive F sh n z h0 x0 x1) := by
  unfold fn_X3_isLive
  exact (lkp_fn_X3_isLive_L3 K g_h0 _ _ _ h_z )
theorem lkp_fn_X6_readForeignStructures_L32 {F : Nat} {sh : Nat → Nat × Nat} {n : Nat} {h0 : Nat} (K : Kp Q G) (g_h0 : G h0) : ∀ (f : Nat) (v1 : St) (v2 : Int32), Q v1 → LkP Q (fn_X6_readForeignStructures_L32 F sh n h0 f v1 v2) := by
  intro f
  induction f with
  | zero => intros; exact LkP.none
  | succ f_16 ih =>
    intro z_15 p_14 h_z_15
    exact (LkP.xl (fun k_17 q => have g_k_17 := K.2.2.2.2.2 _ _ _ _ h_z_15 g_h0 q; (LkP.xg (LkP.ite (LkP.ret h_z_15) (LkP.ite (LkP.xl (fun k_21 q => have g_k_21 := K.2.2.2.2.2 _ _ _ _ h_z_15 g_h0 q; (LkP.xc (lkp_fn_X6_readShort K h_z_15 g_h0) (fun z_22 r_23 h_z_22 => (LkP.xg (LkP.xc (lkp_fn_X5_setStructure K h_z_22 g_k_21) (fun z_25 _ h_z_25 => (LkP.xl (fun k_28 q => have g_k_28 := K.2.2.2.2.2 _ _ _ _ h_z_25 g_h0 q; (LkP.xc (lkp_fn_X6_readByte K h_z_25 g_h0) (fun z_29 r_30 h_z_29 => (LkP.xg (LkP.xc (lkp_fn_X5_setStructure K h_z_29 g_k_28) (fun z_32 _ h_z_32 => (LkP.xl (fun k_35 q => have g_k_35 := K.2.2.2.2.2 _ _ _ _ h_z_32 g_h0 q; (LkP.xc (lkp_fn_X6_readNumber K h_z_32 g_h0) (fun z_36 r_37 h_z_36 => (LkP.xg (LkP.xc (lkp_fn_X5_setStructure K h_z_36 g_k_35) (fun z_39 _ h_z_39 => (LkP.xl (fun k_42 q => have g_k_42 := K.2.2.2.2.2 _ _ _ _ h_z_39 g_h0 q; (LkP.xg (LkP.xc (lkp_fn_X5_setStructure K h_z_39 g_k_42) (fun z_43 _ h_z_43 => (ih _ _ h_z_43 ))))))))))))))))))))))))))) (LkP.ret h_z_15))))))
theorem lkp_fn_X6_readForeignStructures {F : Nat} {sh : Nat → Nat × Nat} {n : Nat} {z : St} {h0 : Nat} (K : Kp Q G) (h_z : Q z) (g_h0 : G h0) : LkP Q (fn_X6_readForeignStructures F sh n z h0) := by
  unfold fn_X6_readForeignStructures
  exact (LkP.xg (LkP.xc (lkp_fn_X6_readNumber K h_z g_h0) (fun z_1 r_2 h_z_1 => (LkP.xl (fun k_5 q => have g_k_5 := K.2.2.2.2.2 _ _ _ _ h_z_1 g_h0 q; (LkP.xl (fun k_6 q => have g_k_6 := K.2.2.2.2.2 _ _ _ _ h_z_1 g_h0 q; (LkP.xg (LkP.xg (LkP.lts (K.1 _ _ _ _ h_z_1 g_k_5) (fun z_10 h_z_10 => (LkP.xl (fun k_11 q => have g_k_11 := K.2.2.2.2.2 _ _ _ _ h_z_10 g_h0 q; (LkP.xg (LkP.ltv (fun v_13 => (lkp_fn_X6_readForeignStructures_L32 K g_h0 _ _ _ h_z_10 )))))))))))))))))
theorem lkp_fn_X16_operand_B63 {F : Nat} {sh : Nat → Nat × Nat} {n : Nat} {x2 : Int32} {h0 : Nat} {v_6 : Int32} {r_11 : Int32} {z_14 : St} {p_13 : Int32} (K : Kp Q G) (h_z_14 : Q z_14) (g_h0 : G h0) : LkP Q (fn_X16_operand_B63 F sh n x2 h0 v_6 r_11 z_14 p_13) := by
  unfold fn_X16_operand_B63
  exact (LkP.ite (LkP.ite (LkP.xc (lkp_fn_X16_number_ K h_z_14 g_h0) (fun z_20 r_21 h_z_20 => (LkP.ret h_z_20))) (LkP.ret h_z_14)) (LkP.xc (lkp_fn_X16_number_ K h_z_14 g_h0) (fun z_16 r_17 h_z_16 => (LkP.ret h_z_16))))
theorem lkp_fn_X16_operand_B58 {F : Nat} {sh : Nat → Nat × Nat} {n : Nat} {x2 : Int32} {h0 : Nat} {v_6 : Int32} {r_11 : Int32} {z_23 : St} (K : Kp Q G) (h_z_23 : Q z_23) (g_h0 : G h0) : LkP Q (fn_X16_operand_B58 F sh n x2 h0 v_6 r_11 z_23) := by
  unfold fn_X16_operand_B58
  exact (lkp_fn_X16_operand_B63 K h_z_23 g_h0)
theorem lkp_fn_X16_operand {F : Nat} {sh : Nat → Nat × Nat} {n : Nat} {z : St} {h0 : Nat} {x0 : Int32} {x1 : Int32} {x2 : Int32} (K : Kp Q G) (h_z : Q z) (g_h0 : G h0) : LkP Q (fn_X16_operand F sh n z h0 x0 x1 x2) := by
  unfold fn_X16_operand
  exact (LkP.xg (LkP.xl (fun k_2 q => have g_k_2 := K.2.2.2.2.2 _ _ _ _ h_z g_h0 q; (LkP.xl (fun k_3 q => have g_k_3 := K.2.2.2.2.2 _ _ _ _ h_z g_h0 q; (LkP.xg (LkP.xg (LkP.ltv (fun v_6 => (LkP.xc (lkp_fn_X16_byteAt K h_z g_h0) (fun z_7 r_8 h_z_7 => (LkP.xc (lkp_fn_X16_operandBytes K h_z_7) (fun z_10 r_11 h_z_10 => (LkP.ite (lkp_fn_X16_operand_B58 K h_z_10 g_h0) (LkP.ite (lkp_fn_X16_operand_B58 K h_z_10 g_h0) (LkP.ite (lkp_fn_X16_operand_B58 K h_z_10 g_h0) (LkP.ite (lkp_fn_X16_operand_B58 K h_z_10 g_h0) (lkp_fn_X16_operand_B63 K h_z_10 g_h0))))))))))))))))))
theorem lkp_fn_X4_set {F : Nat} {sh : Nat → Nat × Nat} {n : Nat} {z : St} {h0 : Nat} {x0 : Int32} {x1 : Nat} {x2 : Int32} (K : Kp Q G) (h_z : Q z) (g_h0 : G h0) (g_x1 : G x1) : LkP Q (fn_X4_set F sh n z h0 x0 x1 x2) := by
  unfold fn_X4_set
  exact (LkP.ite (LkP.xg (LkP.xc (lkp_fn_X5_at K h_z g_x1) (fun z_2 r_3 h_z_2 => (LkP.xg (LkP.xc (lkp_fn_X4_pushNumber K h_z_2 g_h0) (fun z_6 _ h_z_6 => (LkP.ret h_z_6))))))) (LkP.ite (LkP.xg (LkP.xc (lkp_fn_X5_numberAt K h_z g_x1) (fun z_10 r_11 h_z_10 => (LkP.xg (LkP.xc (lkp_fn_X4_pushNumber K h_z_10 g_h0) (fun z_14 _ h_z_14 => (LkP.ret h_z_14))))))) (LkP.ite (LkP.xg (LkP.xc (lkp_fn_X5_numberAt K h_z g_x1) (fun z_18 r_19 h_z_18 => (LkP.xc (lkp_fn_X5_numberAt K h_z_18 g_x1) (fun z_22 r_23 h_z_22 => (LkP.xg (LkP.xc (lkp_fn_X4_pushNumber K h_z_22 g_h0) (fun z_25 _ h_z_25 => (LkP.ret h_z_25))))))))) (LkP.ite (LkP.xg (LkP.xc (lkp_fn_X4_pushNumber K h_z g_h0) (fun z_29 _ h_z_29 => (LkP.ret h_z_29)))) (LkP.ite (LkP.xg (LkP.xc (lkp_fn_X4_pushNumber K h_z g_h0) (fun z_33 _ h_z_33 => (LkP.ret h_z_33)))) (LkP.ite (LkP.xg (LkP.xc (lkp_fn_X5_numberAt K h_z g_x1) (fun z_37 r_38 h_z_37 => (LkP.xg (LkP.xc (lkp_fn_X4_pushNumber K h_z_37 g_h0) (fun z_41 _ h_z_41 => (LkP.ret h_z_41))))))) (LkP.ite (LkP.xg (LkP.xl (fun k_46 q => have g_k_46 := K.2.2.2.2.2 _ _ _ _ h_z g_h0 q; (LkP.xg (LkP.xc (lkp_fn_X4_pushNumber K h_z g_h0) (fun z_48 _ h_z_48 => (LkP.ret h_z_48))))))) (LkP.ret h_z))))))))
theorem lkp_fn_X4_scatter_B40 {F : Nat} {sh : Nat → Nat × Nat} {n : Nat} {h0 : Nat} {z_8 : St} (K : Kp Q G) (h_z_8 : Q z_8) (g_h0 : G h0) : LkP Q (fn_X4_scatter_B40 F sh n h0 z_8) := by
  unfold fn_X4_scatter_B40
  exact (LkP.xl (fun k_9 q => have g_k_9 := K.2.2.2.2.2 _ _ _ _ h_z_8 g_h0 q; (LkP.xg (LkP.lts (K.1 _ _ _ _ h_z_8 g_k_9) (fun z_12 h_z_12 => (LkP.ret h_z_12))))))
theorem lkp_fn_X4_scatter_L59 {F : Nat} {sh : Nat → Nat × Nat} {n : Nat} {h0 : Nat} {v_7 : Int32} {x0 : Int32} {r_2 : Int32} (K : Kp Q G) (g_h0 : G h0) : ∀ (f : Nat) (v1 : St) (v2 : Int32), Q v1 → LkP Q (fn_X4_scatter_L59 F sh n h0 v_7 x0 r_2 f v1 v2) := by
  intro f
  induction f with
  | zero => intros; exact LkP.none
  | succ f_22 ih =>
    intro z_21 p_20 h_z_21
    exact (LkP.ite (LkP.xl (fun k_24 q => have g_k_24 := K.2.2.2.2.2 _ _ _ _ h_z_21 g_h0 q; (LkP.xg (LkP.lts (K.1 _ _ _ _ h_z_21 g_k_24) (fun z_27 h_z_27 => (LkP.ret h_z_27)))))) (LkP.xl (fun k_28 q => have g_k_28 := K.2.2.2.2.2 _ _ _ _ h_z_21 g_h0 q; (LkP.xl (fun k_29 q => have g_k_29 := K.2.2.2.2.2 _ _ _ _ h_z_21 g_h0 q; (LkP.xg (LkP.xc (lkp_fn_X1_detach K h_z_21 g_k_29) (fun z_30 r_31 h_z_30 => (LkP.xg (LkP.lts (K.1 _ _ _ _ h_z_30 g_k_28) (fun z_36 h_z_36 => (ih _ _ h_z_36 ))))))))))))
theorem lkp_fn_X4_scatter {F : Nat} {sh : Nat → Nat × Nat} {n : Nat} {z : St} {h0 : Nat} {x0 : Int32} (K : Kp Q G) (h_z : Q z) (g_h0 : G h0) : LkP Q (fn_X4_scatter F sh n z h0 x0) := by
  unfold fn_X4_scatter
  exact (LkP.xg (LkP.xc (lkp_fn_X4_popOf K h_z g_h0) (fun z_1 r_2 h_z_1 => (LkP.xl (fun k_5 q => have g_k_5 := K.2.2.2.2.2 _ _ _ _ h_z_1 g_h0 q; (LkP.xg (LkP.ltv (fun v_7 => (LkP.ite (lkp_fn_X4_scatter_B40 K h_z_1 g_h0) (LkP.xl (fun k_14 q => have g_k_14 := K.2.2.2.2.2 _ _ _ _ h_z_1 g_h0 q; (LkP.xg (LkP.xl (fun k_16 q => have g_k_16 := K.2.2.2.2.2 _ _ _ _ h_z_1 g_k_14 q; (LkP.xg (LkP.ite (LkP.ltv (fun v_19 => (lkp_fn_X4_scatter_L59 K g_h0 _ _ _ h_z_1 ))) (lkp_fn_X4_scatter_B40 K h_z_1 g_h0)))))))))))))))))
theorem lkp_fn_X3_isSole_B100 {F : Nat} {sh : Nat → Nat × Nat} {n : Nat} {p_6 : Int32} {ko54 : St → Int32 → Option (St × Int32)} {z_12 : St} (K : Kp Q G) (h_z_12 : Q z_12) (hko_ko54 : ∀ (w0 : St) (w1 : Int32), Q w0 → LkP Q (ko54 w0 w1)) : LkP Q (fn_X3_isSole_B100 F sh n p_6 ko54 z_12) := by
  unfold fn_X3_isSole_B100
  exact (hko_ko54 _ _ h_z_12 )
theorem lkp_fn_X3_isSole_L54 {F : Nat} {sh : Nat → Nat × Nat} {n : Nat} {h0 : Nat} {x0 : Int64} (K : Kp Q G) (g_h0 : G h0) : ∀ (f : Nat) (v1 : St) (v2 : Int32), Q v1 → LkP Q (fn_X3_isSole_L54 F sh n h0 x0 f v1 v2) := by
  intro f
  induction f with
  | zero => intros; exact LkP.none
  | succ f_8 ih =>
    intro z_7 p_6 h_z_7
    exact (LkP.ite (LkP.ret h_z_7) (LkP.xl (fun k_10 q => have g_k_10 := K.2.2.2.2.2 _ _ _ _ h_z_7 g_h0 q; (LkP.xg (LkP.ite (lkp_fn_X3_isSole_B100 K h_z_7 (fun z9 q3 hk_z9 => (ih _ _ hk_z9 ))) (LkP.ite (LkP.xl (fun k_15 q => have g_k_15 := K.2.2.2.2.2 _ _ _ _ h_z_7 g_h0 q; (LkP.xg (LkP.xc (lkp_fn_X3_writes K h_z_7) (fun z_17 r_18 h_z_17 => (LkP.ite (LkP.ret h_z_17) (lkp_fn_X3_isSole_B100 K h_z_17 (fun z9 q3 hk_z9 => (ih _ _ hk_z9 ))))))))) (LkP.ret h_z_7)))))))
theorem lkp_fn_X3_isSole_B46 {F : Nat} {sh : Nat → Nat × Nat} {n : Nat} {p_1 : Int32} {ko2 : St → Int32 → Option (St × Int32)} {z_23 : St} (K : Kp Q G) (h_z_23 : Q z_23) (hko_ko2 : ∀ (w0 : St) (w1 : Int32), Q w0 → LkP Q (ko2 w0 w1)) : LkP Q (fn_X3_isSole_B46 F sh n p_1 ko2 z_23) := by
  unfold fn_X3_isSole_B46
  exact (hko_ko2 _ _ h_z_23 )
theorem lkp_fn_X3_isSole_L2 {F : Nat} {sh : Nat → Nat × Nat} {n : Nat} {h0 : Nat} {x0 : Int64} (K : Kp Q G) (g_h0 : G h0) : ∀ (f : Nat) (v1 : St) (v2 : Int32), Q v1 → LkP Q (fn_X3_isSole_L2 F sh n h0 x0 f v1 v2) := by
  intro f
  induction f with
  | zero => intros; exact LkP.none
  | succ f_3 ih =>
    intro z_2 p_1 h_z_2
    exact (LkP.xg (LkP.ite (lkp_fn_X3_isSole_L54 K g_h0 _ _ _ h_z_2 ) (LkP.xl (fun k_21 q => have g_k_21 := K.2.2.2.2.2 _ _ _ _ h_z_2 g_h0 q; (LkP.xg (LkP.ite (lkp_fn_X3_isSole_B46 K h_z_2 (fun z9 q3 hk_z9 => (ih _ _ hk_z9 ))) (LkP.xl (fun k_25 q => have g_k_25 := K.2.2.2.2.2 _ _ _ _ h_z_2 g_h0 q; (LkP.xg (LkP.ite (LkP.xl (fun k_28 q => have g_k_28 := K.2.2.2.2.2 _ _ _ _ h_z_2 g_h0 q; (LkP.xg (LkP.xc (lkp_fn_X3_writes K h_z_2) (fun z_30 r_31 h_z_30 => (LkP.ite (LkP.ret h_z_30) (lkp_fn_X3_isSole_B46 K h_z_30 (fun z9 q3 hk_z9 => (ih _ _ hk_z9 ))))))))) (LkP.ret h_z_2)))))))))))
theorem lkp_fn_X3_isSole {F : Nat} {sh : Nat → Nat × Nat} {n : Nat} {z : St} {h0 : Nat} {x0 : Int64} (K : Kp Q G) (h_z : Q z) (g_h0 : G h0) : LkP Q (fn_X3_isSole F sh n z h0 x0) := by
  unfold fn_X3_isSole
  exact (lkp_fn_X3_isSole_L2 K g_h0 _ _ _ h_z )
theorem lkp_fn_X17_multiply_L13 {F : Nat} {sh : Nat → Nat × Nat} {n : Nat} {h0 : Nat} {p_1 : Int32} {ko2 : St → Int32 → Option (St × Int32)} (K : Kp Q G) (g_h0 : G h0) (hko_ko2 : ∀ (w0 : St) (w1 : Int32), Q w0 → LkP Q (ko2 w0 w1)) : ∀ (f : Nat) (v1 : St) (v2 : Int64) (v3 : Int32), Q v1 → LkP Q (fn_X17_multiply_L13 F sh n h0 p_1 ko2 f v1 v2 v3) := by
  intro f
  induction f with
  | zero => intros; exact LkP.none
  | succ f_13 ih =>
    intro z_12 p_10 p_11 h_z_12
    exact (LkP.ite (LkP.xg (LkP.xl (fun k_16 q => have g_k_16 := K.2.2.2.2.2 _ _ _ _ h_z_12 g_h0 q; (LkP.xg (LkP.xg (LkP.lts (K.1 _ _ _ _ h_z_12 g_k_16) (fun z_20 h_z_20 => (hko_ko2 _ _ h_z_20 )))))))) (LkP.xg (LkP.xl (fun k_22 q => have g_k_22 := K.2.2.2.2.2 _ _ _ _ h_z_12 g_h0 q; (LkP.xg (LkP.xl (fun k_24 q => have g_k_24 := K.2.2.2.2.2 _ _ _ _ h_z_12 g_h0 q; (LkP.xg (LkP.xl (fun k_26 q => have g_k_26 := K.2.2.2.2.2 _ _ _ _ h_z_12 g_h0 q; (LkP.xg (LkP.ltv (fun v_28 => (LkP.xl (fun k_29 q => have g_k_29 := K.2.2.2.2.2 _ _ _ _ h_z_12 g_h0 q; (LkP.xg (LkP.lts (K.1 _ _ _ _ h_z_12 g_k_29) (fun z_32 h_z_32 => (LkP.ltv (fun v_33 => (ih _ _ _ h_z_32 )))))))))))))))))))))
theorem lkp_fn_X17_multiply_L2 {F : Nat} {sh : Nat → Nat × Nat} {n : Nat} {h0 : Nat} {x0 : Int32} (K : Kp Q G) (g_h0 : G h0) : ∀ (f : Nat) (v1 : St) (v2 : Int32), Q v1 → LkP Q (fn_X17_multiply_L2 F sh n h0 x0 f v1 v2) := by
  intro f
  induction f with
  | zero => intros; exact LkP.none
  | succ f_3 ih =>
    intro z_2 p_1 h_z_2
    exact (LkP.ite (LkP.xg (LkP.xc (lkp_fn_X17_result K h_z_2 g_h0) (fun z_5 r_6 h_z_5 => (LkP.xg (LkP.ret h_z_5))))) (lkp_fn_X17_multiply_L13 K g_h0 (fun z9 q2 hk_z9 => (ih _ _ hk_z9 )) _ _ _ _ h_z_2 ))
theorem lkp_fn_X17_multiply {F : Nat} {sh : Nat → Nat × Nat} {n : Nat} {z : St} {h0 : Nat} {x0 : Int32} (K : Kp Q G) (h_z : Q z) (g_h0 : G h0) : LkP Q (fn_X17_multiply F sh n z h0 x0) := by
  unfold fn_X17_multiply
  exact (lkp_fn_X17_multiply_L2 K g_h0 _ _ _ h_z )
theorem lkp_fn_X16_overType_B80 {F : Nat} {sh : Nat → Nat × Nat} {n : Nat} {h0 : Nat} {z_19 : St} {p_18 : Int32} (K : Kp Q G) (h_z_19 : Q z_19) (g_h0 : G h0) : LkP Q (fn_X16_overType_B80 F sh n h0 z_19 p_18) := by
  unfold fn_X16_overType_B80
  exact (LkP.xc (lkp_fn_X16_isGood K h_z_19 g_h0) (fun z_20 r_21 h_z_20 => (LkP.ite (LkP.ret h_z_20) (LkP.xc (lkp_fn_X16_byteAt K h_z_20 g_h0) (fun z_24 r_25 h_z_24 => (LkP.ite (LkP.xc (lkp_fn_X16_fail K h_z_24 g_h0) (fun z_28 _ h_z_28 => (LkP.ret h_z_28))) (LkP.ite (LkP.ite (LkP.xc (lkp_fn_X16_over K h_z_24 g_h0) (fun z_32 r_33 h_z_32 => (LkP.ret h_z_32))) (LkP.ret h_z_24)) (LkP.xc (lkp_fn_X16_fail K h_z_24 g_h0) (fun z_35 _ h_z_35 => (LkP.ret h_z_35))))))))))
theorem lkp_fn_X16_overType_L46 {F : Nat} {sh : Nat → Nat × Nat} {n : Nat} {h0 : Nat} (K : Kp Q G) (g_h0 : G h0) : ∀ (f : Nat) (v1 : St) (v2 : Int32) (v3 : Int32), Q v1 → LkP Q (fn_X16_overType_L46 F sh n h0 f v1 v2 v3) := by
  intro f
  induction f with
  | zero => intros; exact LkP.none
  | succ f_14 ih =>
    intro z_13 p_11 p_12 h_z_13
    exact (LkP.xc (lkp_fn_X16_isGood K h_z_13 g_h0) (fun z_15 r_16 h_z_15 => (LkP.ite (lkp_fn_X16_overType_B80 K h_z_15 g_h0) (LkP.xc (lkp_fn_X16_byteAt K h_z_15 g_h0) (fun z_38 r_39 h_z_38 => (LkP.ite (LkP.ite (lkp_fn_X16_overType_B80 K h_z_38 g_h0) (LkP.xc (lkp_fn_X16_over K h_z_38 g_h0) (fun z_43 r_44 h_z_43 => (ih _ _ _ h_z_43 )))) (lkp_fn_X16_overType_B80 K h_z_38 g_h0)))))))
theorem lkp_fn_X16_overType_B44 {F : Nat} {sh : Nat → Nat × Nat} {n : Nat} {h0 : Nat} {z_10 : St} {p_9 : Int32} (K : Kp Q G) (h_z_10 : Q z_10) (g_h0 : G h0) : LkP Q (fn_X16_overType_B44 F sh n h0 z_10 p_9) := by
  unfold fn_X16_overType_B44
  exact (lkp_fn_X16_overType_L46 K g_h0 _ _ _ _ h_z_10 )
theorem lkp_fn_X16_overType_B38 {F : Nat} {sh : Nat → Nat × Nat} {n : Nat} {h0 : Nat} {z_50 : St} (K : Kp Q G) (h_z_50 : Q z_50) (g_h0 : G h0) : LkP Q (fn_X16_overType_B38 F sh n h0 z_50) := by
  unfold fn_X16_overType_B38
  exact (LkP.xc (lkp_fn_X16_over K h_z_50 g_h0) (fun z_51 r_52 h_z_51 => (lkp_fn_X16_overType_B44 K h_z_51 g_h0)))
theorem lkp_fn_X16_overType {F : Nat} {sh : Nat → Nat × Nat} {n : Nat} {z : St} {h0 : Nat} {x0 : Int32} (K : Kp Q G) (h_z : Q z) (g_h0 : G h0) : LkP Q (fn_X16_overType F sh n z h0 x0) := by
  unfold fn_X16_overType
  exact (LkP.xg (LkP.xc (lkp_fn_X16_over K h_z g_h0) (fun z_1 r_2 h_z_1 => (LkP.xc (lkp_fn_X16_isGood K h_z_1 g_h0) (fun z_5 r_6 h_z_5 => (LkP.ite (LkP.ret h_z_5) (LkP.ite (lkp_fn_X16_overType_B44 K h_z_5 g_h0) (LkP.xc (lkp_fn_X16_byteAt K h_z_5 g_h0) (fun z_47 r_48 h_z_47 => (LkP.ite (lkp_fn_X16_overType_B38 K h_z_47 g_h0) (LkP.xc (lkp_fn_X16_byteAt K h_z_47 g_h0) (fun z_55 r_56 h_z_55 => (LkP.ite (lkp_fn_X16_overType_B38 K h_z_55 g_h0) (lkp_fn_X16_overType_B44 K h_z_55 g_h0))))))))))))))
theorem lkp_fn_X13_isPointed_B127 {F : Nat} {sh : Nat → Nat × Nat} {n : Nat} {p_8 : Int32} {ko66 : St → Int32 → Int32 → Option (St × Int32)} {z_14 : St} {p_13 : Int32} (K : Kp Q G) (h_z_14 : Q z_14) (hko_ko66 : ∀ (w0 : St) (w1 : Int32) (w2 : Int32), Q w0 → LkP Q (ko66 w0 w1 w2)) : LkP Q (fn_X13_isPointed_B127 F sh n p_8 ko66 z_14 p_13) := by
  unfold fn_X13_isPointed_B127
  exact (hko_ko66 _ _ _ h_z_14 )
theorem lkp_fn_X13_isPointed_B122 {F : Nat} {sh : Nat → Nat × Nat} {n : Nat} {p_8 : Int32} {ko66 : St → Int32 → Int32 → Option (St × Int32)} {z_15 : St} (K : Kp Q G) (h_z_15 : Q z_15) (hko_ko66 : ∀ (w0 : St) (w1 : Int32) (w2 : Int32), Q w0 → LkP Q (ko66 w0 w1 w2)) : LkP Q (fn_X13_isPointed_B122 F sh n p_8 ko66 z_15) := by
  unfold fn_X13_isPointed_B122
  exact (lkp_fn_X13_isPointed_B127 K h_z_15 (fun z9 q3 q4 hk_z9 => (hko_ko66 _ _ _ hk_z9 )))
theorem lkp_fn_X13_isPointed_B126 {F : Nat} {sh : Nat → Nat × Nat} {n : Nat} {p_8 : Int32} {ko66 : St → Int32 → Int32 → Option (St × Int32)} {z_19 : St} (K : Kp Q G) (h_z_19 : Q z_19) (hko_ko66 : ∀ (w0 : St) (w1 : Int32) (w2 : Int32), Q w0 → LkP Q (ko66 w0 w1 w2)) : LkP Q (fn_X13_isPointed_B126 F sh n p_8 ko66 z_19) := by
  unfold fn_X13_isPointed_B126
  exact (lkp_fn_X13_isPointed_B127 K h_z_19 (fun z9 q3 q4 hk_z9 => (hko_ko66 _ _ _ hk_z9 )))
theorem lkp_fn_X13_isPointed_L66 {F : Nat} {sh : Nat → Nat × Nat} {n : Nat} {h0 : Nat} {x0 : Int32} {x1 : Int32} (K : Kp Q G) (g_h0 : G h0) : ∀ (f : Nat) (v1 : St) (v2 : Int32) (v3 : Int32), Q v1 → LkP Q (fn_X13_isPointed_L66 F sh n h0 x0 x1 f v1 v2 v3) := by
  intro f
  induction f with
  | zero => intros; exact LkP.none
  | succ f_10 ih =>
    intro z_9 p_7 p_8 h_z_9
    exact (LkP.ite (LkP.xg (LkP.ret h_z_9)) (LkP.ite (LkP.xl (fun k_17 q => have g_k_17 := K.2.2.2.2.2 _ _ _ _ h_z_9 g_h0 q; (LkP.xg (LkP.ite (lkp_fn_X13_isPointed_B126 K h_z_9 (fun z9 q3 q4 hk_z9 => (ih _ _ _ hk_z9 ))) (LkP.xl (fun k_21 q => have g_k_21 := K.2.2.2.2.2 _ _ _ _ h_z_9 g_h0 q; (LkP.xg (LkP.ite (LkP.ite (lkp_fn_X13_isPointed_B122 K h_z_9 (fun z9 q3 q4 hk_z9 => (ih _ _ _ hk_z9 ))) (LkP.xl (fun k_25 q => have g_k_25 := K.2.2.2.2.2 _ _ _ _ h_z_9 g_h0 q; (LkP.xg (LkP.xc (lkp_fn_X13_writes K h_z_9) (fun z_27 r_28 h_z_27 => (LkP.ite (lkp_fn_X13_isPointed_B126 K h_z_27 (fun z9 q3 q4 hk_z9 => (ih _ _ _ hk_z9 ))) (lkp_fn_X13_isPointed_B122 K h_z_27 (fun z9 q3 q4 hk_z9 => (ih _ _ _ hk_z9 )))))))))) (lkp_fn_X13_isPointed_B126 K h_z_9 (fun z9 q3 q4 hk_z9 => (ih _ _ _ hk_z9 ))))))))))) (lkp_fn_X13_isPointed_B122 K h_z_9 (fun z9 q3 q4 hk_z9 => (ih _ _ _ hk_z9 )))))
theorem lkp_fn_X13_isPointed_B56 {F : Nat} {sh : Nat → Nat × Nat} {n : Nat} {p_2 : Int32} {ko5 : St → Int32 → Int32 → Option (St × Int32)} {z_32 : St} {p_31 : Int32} (K : Kp Q G) (h_z_32 : Q z_32) (hko_ko5 : ∀ (w0 : St) (w1 : Int32) (w2 : Int32), Q w0 → LkP Q (ko5 w0 w1 w2)) : LkP Q (fn_X13_isPointed_B56 F sh n p_2 ko5 z_32 p_31) := by
  unfold fn_X13_isPointed_B56
  exact (hko_ko5 _ _ _ h_z_32 )
theorem lkp_fn_X13_isPointed_B51 {F : Nat} {sh : Nat → Nat × Nat} {n : Nat} {p_2 : Int32} {ko5 : St → Int32 → Int32 → Option (St × Int32)} {z_33 : St} (K : Kp Q G) (h_z_33 : Q z_33) (hko_ko5 : ∀ (w0 : St) (w1 : Int32) (w2 : Int32), Q w0 → LkP Q (ko5 w0 w1 w2)) : LkP Q (fn_X13_isPointed_B51 F sh n p_2 ko5 z_33) := by
  unfold fn_X13_isPointed_B51
  exact (lkp_fn_X13_isPointed_B56 K h_z_33 (fun z9 q3 q4 hk_z9 => (hko_ko5 _ _ _ hk_z9 )))
theorem lkp_fn_X13_isPointed_B55 {F : Nat} {sh : Nat → Nat × Nat} {n : Nat} {p_2 : Int32} {ko5 : St → Int32 → Int32 → Option (St × Int32)} {z_37 : St} (K : Kp Q G) (h_z_37 : Q z_37) (hko_ko5 : ∀ (w0 : St) (w1 : Int32) (w2 : Int32), Q w0 → LkP Q (ko5 w0 w1 w2)) : LkP Q (fn_X13_isPointed_B55 F sh n p_2 ko5 z_37) := by
  unfold fn_X13_isPointed_B55
  exact (lkp_fn_X13_isPointed_B56 K h_z_37 (fun z9 q3 q4 hk_z9 => (hko_ko5 _ _ _ hk_z9 )))
theorem lkp_fn_X13_isPointed_L5 {F : Nat} {sh : Nat → Nat × Nat} {n : Nat} {h0 : Nat} {x0 : Int32} {x1 : Int32} (K : Kp Q G) (g_h0 : G h0) : ∀ (f : Nat) (v1 : St) (v2 : Int32) (v3 : Int32), Q v1 → LkP Q (fn_X13_isPointed_L5 F sh n h0 x0 x1 f v1 v2 v3) := by
  intro f
  induction f with
  | zero => intros; exact LkP.none
  | succ f_4 ih =>
    intro z_3 p_1 p_2 h_z_3
    exact (LkP.xg (LkP.ite (lkp_fn_X13_isPointed_L66 K g_h0 _ _ _ _ h_z_3 ) (LkP.ite (LkP.xl (fun k_35 q => have g_k_35 := K.2.2.2.2.2 _ _ _ _ h_z_3 g_h0 q; (LkP.xg (LkP.ite (LkP.ite (lkp_fn_X13_isPointed_B51 K h_z_3 (fun z9 q3 q4 hk_z9 => (ih _ _ _ hk_z9 ))) (LkP.xl (fun k_40 q => have g_k_40 := K.2.2.2.2.2 _ _ _ _ h_z_3 g_h0 q; (LkP.xg (LkP.xc (lkp_fn_X13_writes K h_z_3) (fun z_42 r_43 h_z_42 => (LkP.ite (lkp_fn_X13_isPointed_B55 K h_z_42 (fun z9 q3 q4 hk_z9 => (ih _ _ _ hk_z9 ))) (lkp_fn_X13_isPointed_B51 K h_z_42 (fun z9 q3 q4 hk_z9 => (ih _ _ _ hk_z9 )))))))))) (lkp_fn_X13_isPointed_B55 K h_z_3 (fun z9 q3 q4 hk_z9 => (ih _ _ _ hk_z9 ))))))) (lkp_fn_X13_isPointed_B51 K h_z_3 (fun z9 q3 q4 hk_z9 => (ih _ _ _ hk_z9 ))))))
theorem lkp_fn_X13_isPointed {F : Nat} {sh : Nat → Nat × Nat} {n : Nat} {z : St} {h0 : Nat} {x0 : Int32} {x1 : Int32} (K : Kp Q G) (h_z : Q z) (g_h0 : G h0) : LkP Q (fn_X13_isPointed F sh n z h0 x0 x1) := by
  unfold fn_X13_isPointed
  exact (lkp_fn_X13_isPointed_L5 K g_h0 _ _ _ _ h_z )
theorem lkp_fn_X13_isSole_B136 {F : Nat} {sh : Nat → Nat × Nat} {n : Nat} {p_8 : Int32} {ko70 : St → Int32 → Int32 → Option (St × Int32)} {z_16 : St} {p_15 : Int32} (K : Kp Q G) (h_z_16 : Q z_16) (hko_ko70 : ∀ (w0 : St) (w1 : Int32) (w2 : Int32), Q w0 → LkP Q (ko70 w0 w1 w2)) : LkP Q (fn_X13_isSole_B136 F sh n p_8 ko70 z_16 p_15) := by
  unfold fn_X13_isSole_B136
  exact (hko_ko70 _ _ _ h_z_16 )
theorem lkp_fn_X13_isSole_B135 {F : Nat} {sh : Nat → Nat × Nat} {n : Nat} {p_8 : Int32} {ko70 : St → Int32 → Int32 → Option (St × Int32)} {z_22 : St} {p_21 : Int32} (K : Kp Q G) (h_z_22 : Q z_22) (hko_ko70 : ∀ (w0 : St) (w1 : Int32) (w2 : Int32), Q w0 → LkP Q (ko70 w0 w1 w2)) : LkP Q (fn_X13_isSole_B135 F sh n p_8 ko70 z_22 p_21) := by
  unfold fn_X13_isSole_B135
  exact (lkp_fn_X13_isSole_B136 K h_z_22 (fun z9 q3 q4 hk_z9 => (hko_ko70 _ _ _ hk_z9 )))
theorem lkp_fn_X13_isSole_B134 {F : Nat} {sh : Nat → Nat × Nat} {n : Nat} {p_8 : Int32} {ko70 : St → Int32 → Int32 → Option (St × Int32)} {z_23 : St} (K : Kp Q G) (h_z_23 : Q z_23) (hko_ko70 : ∀ (w0 : St) (w1 : Int32) (w2 : Int32), Q w0 → LkP Q (ko70 w0 w1 w2)) : LkP Q (fn_X13_isSole_B134 F sh n p_8 ko70 z_23) := by
  unfold fn_X13_isSole_B134
  exact (lkp_fn_X13_isSole_B135 K h_z_23 (fun z9 q3 q4 hk_z9 => (hko_ko70 _ _ _ hk_z9 )))
theorem lkp_fn_X13_isSole_L70 {F : Nat} {sh : Nat → Nat × Nat} {n : Nat} {h0 : Nat} {x0 : Int64} (K : Kp Q G) (g_h0 : G h0) : ∀ (f : Nat) (v1 : St) (v2 : Int32) (v3 : Int32), Q v1 → LkP Q (fn_X13_isSole_L70 F sh n h0 x0 f v1 v2 v3) := by
  intro f
  induction f with
  | zero => intros; exact LkP.none
  | succ f_10 ih =>
    intro z_9 p_7 p_8 h_z_9
    exact (LkP.ite (LkP.xg (LkP.ret h_z_9)) (LkP.xl (fun k_13 q => have g_k_13 := K.2.2.2.2.2 _ _ _ _ h_z_9 g_h0 q; (LkP.xg (LkP.ite (lkp_fn_X13_isSole_B136 K h_z_9 (fun z9 q3 q4 hk_z9 => (ih _ _ _ hk_z9 ))) (LkP.xl (fun k_18 q => have g_k_18 := K.2.2.2.2.2 _ _ _ _ h_z_9 g_h0 q; (LkP.xg (LkP.ite (lkp_fn_X13_isSole_B136 K h_z_9 (fun z9 q3 q4 hk_z9 => (ih _ _ _ hk_z9 ))) (LkP.ite (lkp_fn_X13_isSole_B134 K h_z_9 (fun z9 q3 q4 hk_z9 => (ih _ _ _ hk_z9 ))) (LkP.xl (fun k_25 q => have g_k_25 := K.2.2.2.2.2 _ _ _ _ h_z_9 g_h0 q; (LkP.xg (LkP.xc (lkp_fn_X13_writes K h_z_9) (fun z_27 r_28 h_z_27 => (LkP.ite (lkp_fn_X13_isSole_B134 K h_z_27 (fun z9 q3 q4 hk_z9 => (ih _ _ _ hk_z9 ))) (LkP.xl (fun k_31 q => have g_k_31 := K.2.2.2.2.2 _ _ _ _ h_z_27 g_h0 q; (LkP.xg (LkP.ite (lkp_fn_X13_isSole_B135 K h_z_27 (fun z9 q3 q4 hk_z9 => (ih _ _ _ hk_z9 ))) (lkp_fn_X13_isSole_B134 K h_z_27 (fun z9 q3 q4 hk_z9 => (ih _ _ _ hk_z9 )))))))))))))))))))))))
theorem lkp_fn_X13_isSole_B60 {F : Nat} {sh : Nat → Nat × Nat} {n : Nat} {p_2 : Int32} {ko5 : St → Int32 → Int32 → Option (St × Int32)} {z_35 : St} {p_34 : Int32} (K : Kp Q G) (h_z_35 : Q z_35) (hko_ko5 : ∀ (w0 : St) (w1 : Int32) (w2 : Int32), Q w0 → LkP Q (ko5 w0 w1 w2)) : LkP Q (fn_X13_isSole_B60 F sh n p_2 ko5 z_35 p_34) := by
  unfold fn_X13_isSole_B60
  exact (hko_ko5 _ _ _ h_z_35 )
theorem lkp_fn_X13_isSole_B59 {F : Nat} {sh : Nat → Nat × Nat} {n : Nat} {p_2 : Int32} {ko5 : St → Int32 → Int32 → Option (St × Int32)} {z_36 : St} (K : Kp Q G) (h_z_36 : Q z_36) (hko_ko5 : ∀ (w0 : St) (w1 : Int32) (w2 : Int32), Q w0 → LkP Q (ko5 w0 w1 w2)) : LkP Q (fn_X13_isSole_B59 F sh n p_2 ko5 z_36) := by
  unfold fn_X13_isSole_B59
  exact (lkp_fn_X13_isSole_B60 K h_z_36 (fun z9 q3 q4 hk_z9 => (hko_ko5 _ _ _ hk_z9 )))
theorem lkp_fn_X13_isSole_B55 {F : Nat} {sh : Nat → Nat × Nat} {n : Nat} {p_2 : Int32} {ko5 : St → Int32 → Int32 → Option (St × Int32)} {z_40 : St} (K : Kp Q G) (h_z_40 : Q z_40) (hko_ko5 : ∀ (w0 : St) (w1 : Int32) (w2 : Int32), Q w0 → LkP Q (ko5 w0 w1 w2)) : LkP Q (fn_X13_isSole_B55 F sh n p_2 ko5 z_40) := by
  unfold fn_X13_isSole_B55
  exact (lkp_fn_X13_isSole_B60 K h_z_40 (fun z9 q3 q4 hk_z9 => (hko_ko5 _ _ _ hk_z9 )))
theorem lkp_fn_X13_isSole_L5 {F : Nat} {sh : Nat → Nat × Nat} {n : Nat} {h0 : Nat} {x0 : Int64} (K : Kp Q G) (g_h0 : G h0) : ∀ (f : Nat) (v1 : St) (v2 : Int32) (v3 : Int32), Q v1 → LkP Q (fn_X13_isSole_L5 F sh n h0 x0 f v1 v2 v3) := by
  intro f
  induction f with
  | zero => intros; exact LkP.none
  | succ f_4 ih =>
    intro z_3 p_1 p_2 h_z_3
    exact (LkP.xg (LkP.ite (lkp_fn_X13_isSole_L70 K g_h0 _ _ _ _ h_z_3 ) (LkP.ite (lkp_fn_X13_isSole_B59 K h_z_3 (fun z9 q3 q4 hk_z9 => (ih _ _ _ hk_z9 ))) (LkP.xl (fun k_38 q => have g_k_38 := K.2.2.2.2.2 _ _ _ _ h_z_3 g_h0 q; (LkP.xg (LkP.ite (lkp_fn_X13_isSole_B55 K h_z_3 (fun z9 q3 q4 hk_z9 => (ih _ _ _ hk_z9 ))) (LkP.xl (fun k_42 q => have g_k_42 := K.2.2.2.2.2 _ _ _ _ h_z_3 g_h0 q; (LkP.xg (LkP.xc (lkp_fn_X13_writes K h_z_3) (fun z_44 r_45 h_z_44 => (LkP.ite (lkp_fn_X13_isSole_B59 K h_z_44 (fun z9 q3 q4 hk_z9 => (ih _ _ _ hk_z9 ))) (LkP.xl (fun k_48 q => have g_k_48 := K.2.2.2.2.2 _ _ _ _ h_z_44 g_h0 q; (LkP.xg (LkP.ite (lkp_fn_X13_isSole_B55 K h_z_44 (fun z9 q3 q4 hk_z9 => (ih _ _ _ hk_z9 ))) (lkp_fn_X13_isSole_B59 K h_z_44 (fun z9 q3 q4 hk_z9 => (ih _ _ _ hk_z9 ))))))))))))))))))))
theorem lkp_fn_X13_isSole {F : Nat} {sh : Nat → Nat × Nat} {n : Nat} {z : St} {h0 : Nat} {x0 : Int64} (K : Kp Q G) (h_z : Q z) (g_h0 : G h0) : LkP Q (fn_X13_isSole F sh n z h0 x0) := by
  unfold fn_X13_isSole
  exact (lkp_fn_X13_isSole_L5 K g_h0 _ _ _ _ h_z )
theorem lkp_fn_X18_addOne_L146 {F : Nat} {sh : Nat → Nat × Nat} {n : Nat} {h0 : Nat} {v_2 : Int32} {rec : St → Nat → Option (St × Unit)} (K : Kp Q G) (g_h0 : G h0) (hko_rec : ∀ (w0 : St) (w1 : Nat), Q w0 → G w1 → LkP Q (rec w0 w1)) : ∀ (f : Nat) (v1 : St) (v2 : Int32), Q v1 → LkP Q (fn_X18_addOne_L146 F sh n h0 v_2 rec f v1 v2) := by
  intro f
  induction f with
  | zero => intros; exact LkP.none
  | succ f_53 ih =>
    intro z_52 p_51 h_z_52
    exact (LkP.xl (fun k_54 q => have g_k_54 := K.2.2.2.2.2 _ _ _ _ h_z_52 g_h0 q; (LkP.xg (LkP.ite (LkP.ret h_z_52) (LkP.xc (hko_rec _ _ h_z_52 g_h0) (fun z_57 _ h_z_57 => (ih _ _ h_z_57 )))))))
theorem lkp_fn_X18_addOne_B144 {F : Nat} {sh : Nat → Nat × Nat} {n : Nat} {h0 : Nat} {v_2 : Int32} {rec : St → Nat → Option (St × Unit)} {z_50 : St} (K : Kp Q G) (h_z_50 : Q z_50) (g_h0 : G h0) (hko_rec : ∀ (w0 : St) (w1 : Nat), Q w0 → G w1 → LkP Q (rec w0 w1)) : LkP Q (fn_X18_addOne_B144 F sh n h0 v_2 rec z_50) := by
  unfold fn_X18_addOne_B144
  exact (lkp_fn_X18_addOne_L146 K g_h0 hko_rec _ _ _ h_z_50 )
theorem lkp_fn_X18_addOne {F : Nat} {sh : Nat → Nat × Nat} {n : Nat} (K : Kp Q G)  : ∀ (f : Nat) (v1 : St) (v2 : Nat), Q v1 → G v2 → LkP Q (fn_X18_addOne F sh n f v1 v2) := by
  intro f
  induction f with
  | zero => intros; exact LkP.none
  | succ d ih =>
    intro z h0 h_z g_h0
    exact (LkP.xg (LkP.ltv (fun v_2 => (LkP.lts (K.1 _ _ _ _ h_z g_h0) (fun z_4 h_z_4 => (LkP.xl (fun k_5 q => have g_k_5 := K.2.2.2.2.2 _ _ _ _ h_z_4 g_h0 q; (LkP.xg (LkP.ite (LkP.xl (fun k_8 q => have g_k_8 := K.2.2.2.2.2 _ _ _ _ h_z_4 g_h0 q; (LkP.xl (fun k_9 q => have g_k_9 := K.2.2.2.2.2 _ _ _ _ h_z_4 g_h0 q; (LkP.xg (LkP.xg (LkP.xc (lkp_fn_X12_add K h_z_4 g_k_8) (fun z_11 _ h_z_11 => (LkP.ret h_z_11))))))))) (LkP.ite (LkP.xl (fun k_15 q => have g_k_15 := K.2.2.2.2.2 _ _ _ _ h_z_4 g_h0 q; (LkP.xl (fun k_16 q => have g_k_16 := K.2.2.2.2.2 _ _ _ _ h_z_4 g_h0 q; (LkP.xg (LkP.xg (LkP.xc (lkp_fn_X12_add K h_z_4 g_k_15) (fun z_18 _ h_z_18 => (LkP.ret h_z_18))))))))) (LkP.ite (LkP.xl (fun k_22 q => have g_k_22 := K.2.2.2.2.2 _ _ _ _ h_z_4 g_h0 q; (LkP.xl (fun k_23 q => have g_k_23 := K.2.2.2.2.2 _ _ _ _ h_z_4 g_h0 q; (LkP.xg (LkP.xg (LkP.xc (lkp_fn_X12_addNumber K h_z_4 g_k_22) (fun z_25 _ h_z_25 => (LkP.ret h_z_25))))))))) (LkP.ite (LkP.xl (fun k_29 q => have g_k_29 := K.2.2.2.2.2 _ _ _ _ h_z_4 g_h0 q; (LkP.xl (fun k_30 q => have g_k_30 := K.2.2.2.2.2 _ _ _ _ h_z_4 g_h0 q; (LkP.xg (LkP.xg (LkP.xc (lkp_fn_X12_addNumber K h_z_4 g_k_29) (fun z_32 _ h_z_32 => (LkP.xl (fun k_35 q => have g_k_35 := K.2.2.2.2.2 _ _ _ _ h_z_32 g_h0 q; (LkP.xl (fun k_36 q => have g_k_36 := K.2.2.2.2.2 _ _ _ _ h_z_32 g_h0 q; (LkP.xg (LkP.xg (LkP.xc (lkp_fn_X12_addNumber K h_z_32 g_k_35) (fun z_38 _ h_z_38 => (LkP.ret h_z_38))))))))))))))))) (LkP.ite (LkP.xl (fun k_42 q => have g_k_42 := K.2.2.2.2.2 _ _ _ _ h_z_4 g_h0 q; (LkP.xl (fun k_43 q => have g_k_43 := K.2.2.2.2.2 _ _ _ _ h_z_4 g_h0 q; (LkP.xg (LkP.xg (LkP.xc (lkp_fn_X12_addNumber K h_z_4 g_k_42) (fun z_45 _ h_z_45 => (LkP.ret h_z_45))))))))) (LkP.xl (fun k_48 q => have g_k_48 := K.2.2.2.2.2 _ _ _ _ h_z_4 g_h0 q; (LkP.xg (LkP.ite (LkP.xl (fun k_60 q => have g_k_60 := K.2.2.2.2.2 _ _ _ _ h_z_4 g_h0 q; (LkP.xl (fun k_61 q => have g_k_61 := K.2.2.2.2.2 _ _ _ _ h_z_4 g_h0 q; (LkP.xg (LkP.xg (LkP.xc (lkp_fn_X12_addNumber K h_z_4 g_k_60) (fun z_63 _ h_z_63 => (lkp_fn_X18_addOne_B144 K h_z_63 g_h0 (fun w0 w1 hw gw1 => ih w0 w1 hw gw1)))))))))) (lkp_fn_X18_addOne_B144 K h_z_4 g_h0 (fun w0 w1 hw gw1 => ih w0 w1 hw gw1)))))))))))))))))))
theorem lkp_fn_X12_end_L120 {F : Nat} {sh : Nat → Nat × Nat} {n : Nat} {h0 : Nat} {v_34 : Int32} (K : Kp Q G) (g_h0 : G h0) : ∀ (f : Nat) (v1 : St) (v2 : Int32), Q v1 → LkP Q (fn_X12_end_L120 F sh n h0 v_34 f v1 v2) := by
  intro f
  induction f with
  | zero => intros; exact LkP.none
  | succ f_44 ih =>
    intro z_43 p_42 h_z_43
    exact (LkP.ite (LkP.lts (K.1 _ _ _ _ h_z_43 g_h0) (fun z_47 h_z_47 => (LkP.ret h_z_47))) (LkP.xc (lkp_fn_X12_block K h_z_43 g_h0) (fun z_48 _ h_z_48 => (ih _ _ h_z_48 ))))
theorem lkp_fn_X12_end_L86 {F : Nat} {sh : Nat → Nat × Nat} {n : Nat} {h0 : Nat} {v_34 : Int32} (K : Kp Q G) (g_h0 : G h0) : ∀ (f : Nat) (v1 : St), Q v1 → LkP Q (fn_X12_end_L86 F sh n h0 v_34 f v1) := by
  intro f
  induction f with
  | zero => intros; exact LkP.none
  | succ f_38 ih =>
    intro z_37 h_z_37
    exact (LkP.ite (LkP.xc (lkp_fn_X12_addNumber K h_z_37 g_h0) (fun z_40 _ h_z_40 => (lkp_fn_X12_end_L120 K g_h0 _ _ _ h_z_40 ))) (LkP.xc (lkp_fn_X12_add K h_z_37 g_h0) (fun z_50 _ h_z_50 => (ih _ h_z_50 ))))
theorem lkp_fn_X12_end {F : Nat} {sh : Nat → Nat × Nat} {n : Nat} {z : St} {h0 : Nat} (K : Kp Q G) (h_z : Q z) (g_h0 : G h0) : LkP Q (fn_X12_end F sh n z h0) := by
  unfold fn_X12_end
  exact (LkP.xg (LkP.xl (fun k_2 q => have g_k_2 := K.2.2.2.2.2 _ _ _ _ h_z g_h0 q; (LkP.xg (LkP.lts (K.2.1 _ _ _ _ h_z g_k_2) (fun z_5 h_z_5 => (LkP.xl (fun k_6 q => have g_k_6 := K.2.2.2.2.2 _ _ _ _ h_z_5 g_h0 q; (LkP.xg (LkP.lts (K.2.1 _ _ _ _ h_z_5 g_k_6) (fun z_9 h_z_9 => (LkP.xl (fun k_10 q => have g_k_10 := K.2.2.2.2.2 _ _ _ _ h_z_9 g_h0 q; (LkP.xg (LkP.lts (K.2.1 _ _ _ _ h_z_9 g_k_10) (fun z_13 h_z_13 => (LkP.xl (fun k_14 q => have g_k_14 := K.2.2.2.2.2 _ _ _ _ h_z_13 g_h0 q; (LkP.xg (LkP.lts (K.2.1 _ _ _ _ h_z_13 g_k_14) (fun z_17 h_z_17 => (LkP.xl (fun k_18 q => have g_k_18 := K.2.2.2.2.2 _ _ _ _ h_z_17 g_h0 q; (LkP.xg (LkP.lts (K.2.1 _ _ _ _ h_z_17 g_k_18) (fun z_21 h_z_21 => (LkP.xl (fun k_22 q => have g_k_22 := K.2.2.2.2.2 _ _ _ _ h_z_21 g_h0 q; (LkP.xg (LkP.lts (K.2.1 _ _ _ _ h_z_21 g_k_22) (fun z_25 h_z_25 => (LkP.xl (fun k_26 q => have g_k_26 := K.2.2.2.2.2 _ _ _ _ h_z_25 g_h0 q; (LkP.xg (LkP.lts (K.2.1 _ _ _ _ h_z_25 g_k_26) (fun z_29 h_z_29 => (LkP.xl (fun k_30 q => have g_k_30 := K.2.2.2.2.2 _ _ _ _ h_z_29 g_h0 q; (LkP.xg (LkP.lts (K.2.1 _ _ _ _ h_z_29 g_k_30) (fun z_33 h_z_33 => (LkP.ltv (fun v_34 => (LkP.xc (lkp_fn_X12_add K h_z_33 g_h0) (fun z_35 _ h_z_35 => (lkp_fn_X12_end_L86 K g_h0 _ _ h_z_35 ))))))))))))))))))))))))))))))))))))))))))))))
theorem lkp_fn_X5_measure_L92 {F : Nat} {sh : Nat → Nat × Nat} {n : Nat} {h0 : Nat} {p_10 : Int32} {ko78 : St → Int32 → Option (St × Unit)} (K : Kp Q G) (g_h0 : G h0) (hko_ko78 : ∀ (w0 : St) (w1 : Int32), Q w0 → LkP Q (ko78 w0 w1)) : ∀ (f : Nat) (v1 : St) (v2 : Int32) (v3 : Int32), Q v1 → LkP Q (fn_X5_measure_L92 F sh n h0 p_10 ko78 f v1 v2 v3) := by
  intro f
  induction f with
  | zero => intros; exact LkP.none
  | succ f_17 ih =>
    intro z_16 p_14 p_15 h_z_16
    exact (LkP.xc (lkp_fn_X5_fieldCount K h_z_16 g_h0) (fun z_18 r_19 h_z_18 => (LkP.ite (LkP.xc (lkp_fn_X5_setStructure K h_z_18 g_h0) (fun z_22 _ h_z_22 => (hko_ko78 _ _ h_z_22 ))) (LkP.xc (lkp_fn_X5_fieldType K h_z_18 g_h0) (fun z_24 r_25 h_z_24 => (LkP.xc (lkp_fn_X5_depthOf K h_z_24 g_h0) (fun z_27 r_28 h_z_27 => (LkP.ltv (fun v_30 => (ih _ _ _ h_z_27 ))))))))))
theorem lkp_fn_X5_measure_L78 {F : Nat} {sh : Nat → Nat × Nat} {n : Nat} {h0 : Nat} {p_6 : Int32} {ko68 : St → Int32 → Option (St × Unit)} (K : Kp Q G) (g_h0 : G h0) (hko_ko68 : ∀ (w0 : St) (w1 : Int32), Q w0 → LkP Q (ko68 w0 w1)) : ∀ (f : Nat) (v1 : St) (v2 : Int32), Q v1 → LkP Q (fn_X5_measure_L78 F sh n h0 p_6 ko68 f v1 v2) := by
  intro f
  induction f with
  | zero => intros; exact LkP.none
  | succ f_12 ih =>
    intro z_11 p_10 h_z_11
    exact (LkP.ite (hko_ko68 _ _ h_z_11 ) (lkp_fn_X5_measure_L92 K g_h0 (fun z9 q3 hk_z9 => (ih _ _ hk_z9 )) _ _ _ _ h_z_11 ))
theorem lkp_fn_X5_measure_L68 {F : Nat} {sh : Nat → Nat × Nat} {n : Nat} {h0 : Nat} (K : Kp Q G) (g_h0 : G h0) : ∀ (f : Nat) (v1 : St) (v2 : Int32), Q v1 → LkP Q (fn_X5_measure_L68 F sh n h0 f v1 v2) := by
  intro f
  induction f with
  | zero => intros; exact LkP.none
  | succ f_8 ih =>
    intro z_7 p_6 h_z_7
    exact (LkP.ite (LkP.ret h_z_7) (lkp_fn_X5_measure_L78 K g_h0 (fun z9 q2 hk_z9 => (ih _ _ hk_z9 )) _ _ _ h_z_7 ))
theorem lkp_fn_X5_measure_B57 {F : Nat} {sh : Nat → Nat × Nat} {n : Nat} {h0 : Nat} {p_1 : Int32} {ko2 : St → Int32 → Option (St × Unit)} {z_41 : St} {p_40 : Int32} (K : Kp Q G) (h_z_41 : Q z_41) (g_h0 : G h0) (hko_ko2 : ∀ (w0 : St) (w1 : Int32), Q w0 → LkP Q (ko2 w0 w1)) : LkP Q (fn_X5_measure_B57 F sh n h0 p_1 ko2 z_41 p_40) := by
  unfold fn_X5_measure_B57
  exact (LkP.xc (lkp_fn_X5_setStructure K h_z_41 g_h0) (fun z_42 _ h_z_42 => (hko_ko2 _ _ h_z_42 )))
theorem lkp_fn_X5_measure_B57_2 {F : Nat} {sh : Nat → Nat × Nat} {n : Nat} {h0 : Nat} {p_1 : Int32} {ko2 : St → Int32 → Option (St × Unit)} {z_45 : St} {p_44 : Int32} (K : Kp Q G) (h_z_45 : Q z_45) (g_h0 : G h0) (hko_ko2 : ∀ (w0 : St) (w1 : Int32), Q w0 → LkP Q (ko2 w0 w1)) : LkP Q (fn_X5_measure_B57_2 F sh n h0 p_1 ko2 z_45 p_44) := by
  unfold fn_X5_measure_B57_2
  exact (LkP.xc (lkp_fn_X5_setStructure K h_z_45 g_h0) (fun z_46 _ h_z_46 => (hko_ko2 _ _ h_z_46 )))
theorem lkp_fn_X5_measure_B57_3 {F : Nat} {sh : Nat → Nat × Nat} {n : Nat} {h0 : Nat} {p_1 : Int32} {ko2 : St → Int32 → Option (St × Unit)} {z_56 : St} {p_55 : Int32} (K : Kp Q G) (h_z_56 : Q z_56) (g_h0 : G h0) (hko_ko2 : ∀ (w0 : St) (w1 : Int32), Q w0 → LkP Q (ko2 w0 w1)) : LkP Q (fn_X5_measure_B57_3 F sh n h0 p_1 ko2 z_56 p_55) := by
  unfold fn_X5_measure_B57_3
  exact (LkP.xc (lkp_fn_X5_setStructure K h_z_56 g_h0) (fun z_57 _ h_z_57 => (hko_ko2 _ _ h_z_57 )))
theorem lkp_fn_X5_measure_L2 {F : Nat} {sh : Nat → Nat × Nat} {n : Nat} {h0 : Nat} {x0 : Nat} (K : Kp Q G) (g_h0 : G h0) (g_x0 : G x0) : ∀ (f : Nat) (v1 : St) (v2 : Int32), Q v1 → LkP Q (fn_X5_measure_L2 F sh n h0 x0 f v1 v2) := by
  intro f
  induction f with
  | zero => intros; exact LkP.none
  | succ f_3 ih =>
    intro z_2 p_1 h_z_2
    exact (LkP.xg (LkP.ite (lkp_fn_X5_measure_L68 K g_h0 _ _ _ h_z_2 ) (LkP.ite (LkP.xc (lkp_fn_X5_structureColumn K h_z_2 g_h0) (fun z_32 r_33 h_z_32 => (LkP.xg (LkP.calo (lkp_fn_X7_findProgram K h_z_32 g_x0) (fun z_35 r_36 h_z_35 o_r_36 => (LkP.xn (lkp_fn_X5_measure_B57 K h_z_35 g_h0 (fun z9 q2 hk_z9 => (ih _ _ hk_z9 ))) (fun k_39 q => have g_k_39 := o_r_36 _ q; (LkP.xc (lkp_fn_X5_structureColumn K h_z_35 g_h0) (fun z_48 r_49 h_z_48 => (LkP.xg (LkP.xc (lkp_fn_X5_structureColumn K h_z_48 g_k_39) (fun z_51 r_52 h_z_51 => (lkp_fn_X5_measure_B57_2 K h_z_51 g_h0 (fun z9 q2 hk_z9 => (ih _ _ hk_z9 ))))))))))))))) (lkp_fn_X5_measure_B57_3 K h_z_2 g_h0 (fun z9 q2 hk_z9 => (ih _ _ hk_z9 ))))))
theorem lkp_fn_X5_measure {F : Nat} {sh : Nat → Nat × Nat} {n : Nat} {z : St} {h0 : Nat} {x0 : Nat} (K : Kp Q G) (h_z : Q z) (g_h0 : G h0) (g_x0 : G x0) : LkP Q (fn_X5_measure F sh n z h0 x0) := by
  unfold fn_X5_measure
  exact (lkp_fn_X5_measure_L2 K g_h0 g_x0 _ _ _ h_z )
theorem lkp_fn_X1_storeNode_B16 {F : Nat} {sh : Nat → Nat × Nat} {n : Nat} {h0 : Nat} {x2 : Int32} {z_4 : St} (K : Kp Q G) (h_z_4 : Q z_4) (g_h0 : G h0) : LkP Q (fn_X1_storeNode_B16 F sh n h0 x2 z_4) := by
  unfold fn_X1_storeNode_B16
  exact (LkP.xg (LkP.lts (K.1 _ _ _ _ h_z_4 g_h0) (fun z_7 h_z_7 => (LkP.ret h_z_7))))
theorem lkp_fn_X1_storeNode_L92 {F : Nat} {sh : Nat → Nat × Nat} {n : Nat} {r_14 : Int32} {h0 : Nat} {x0 : Int32} {rec : St → Nat → Int32 → Nat → Int32 → Int32 → Option (St × Int32)} {x1 : Nat} {x3 : Int32} (K : Kp Q G) (g_h0 : G h0) (g_x1 : G x1) (hko_rec : ∀ (w0 : St) (w1 : Nat) (w2 : Int32) (w3 : Nat) (w4 : Int32) (w5 : Int32), Q w0 → G w1 → G w3 → LkP Q (rec w0 w1 w2 w3 w4 w5)) : ∀ (f : Nat) (v1 : St) (v2 : Int32) (v3 : Int32), Q v1 → LkP Q (fn_X1_storeNode_L92 F sh n r_14 h0 x0 rec x1 x3 f v1 v2 v3) := by
  intro f
  induction f with
  | zero => intros; exact LkP.none
  | succ f_38 ih =>
    intro z_37 p_35 p_36 h_z_37
    exact (LkP.ite (LkP.ret h_z_37) (LkP.xl (fun k_40 q => have g_k_40 := K.2.2.2.2.2 _ _ _ _ h_z_37 g_h0 q; (LkP.xg (LkP.ite (LkP.ret h_z_37) (LkP.xc (lkp_fn_X1_child K h_z_37 g_h0) (fun z_43 r_44 h_z_43 => (LkP.xc (hko_rec _ _ _ _ _ _ h_z_43 g_h0 g_x1) (fun z_46 r_47 h_z_46 => (ih _ _ _ h_z_46 ))))))))))
theorem lkp_fn_X1_storeNode_B83 {F : Nat} {sh : Nat → Nat × Nat} {n : Nat} {k_28 : Nat} {x2 : Int32} {r_14 : Int32} {h0 : Nat} {x0 : Int32} {rec : St → Nat → Int32 → Nat → Int32 → Int32 → Option (St × Int32)} {x1 : Nat} {x3 : Int32} {z_30 : St} {p_29 : Int64} (K : Kp Q G) (h_z_30 : Q z_30) (g_k_28 : G k_28) (g_h0 : G h0) (g_x1 : G x1) (hko_rec : ∀ (w0 : St) (w1 : Nat) (w2 : Int32) (w3 : Nat) (w4 : Int32) (w5 : Int32), Q w0 → G w1 → G w3 → LkP Q (rec w0 w1 w2 w3 w4 w5)) : LkP Q (fn_X1_storeNode_B83 F sh n k_28 x2 r_14 h0 x0 rec x1 x3 z_30 p_29) := by
  unfold fn_X1_storeNode_B83
  exact (LkP.xg (LkP.lts (K.2.1 _ _ _ _ h_z_30 g_k_28) (fun z_33 h_z_33 => (LkP.ltv (fun v_34 => (lkp_fn_X1_storeNode_L92 K g_h0 g_x1 hko_rec _ _ _ _ h_z_33 ))))))
theorem lkp_fn_X1_storeNode {F : Nat} {sh : Nat → Nat × Nat} {n : Nat} (K : Kp Q G)  : ∀ (f : Nat) (v1 : St) (v2 : Nat) (v3 : Int32) (v4 : Nat) (v5 : Int32) (v6 : Int32), Q v1 → G v2 → G v4 → LkP Q (fn_X1_storeNode F sh n f v1 v2 v3 v4 v5 v6) := by
  intro f
  induction f with
  | zero => intros; exact LkP.none
  | succ d ih =>
    intro z h0 x0 x1 x2 x3 h_z g_h0 g_x1
    exact (LkP.xg (LkP.xl (fun k_2 q => have g_k_2 := K.2.2.2.2.2 _ _ _ _ h_z g_x1 q; (LkP.xg (LkP.ite (lkp_fn_X1_storeNode_B16 K h_z g_h0) (LkP.ite (LkP.xg (LkP.xl (fun k_11 q => have g_k_11 := K.2.2.2.2.2 _ _ _ _ h_z g_h0 q; (LkP.xg (LkP.xc (lkp_fn_X1_holdsOthers K h_z) (fun z_13 r_14 h_z_13 => (LkP.xl (fun k_16 q => have g_k_16 := K.2.2.2.2.2 _ _ _ _ h_z_13 g_x1 q; (LkP.xl (fun k_17 q => have g_k_17 := K.2.2.2.2.2 _ _ _ _ h_z_13 g_h0 q; (LkP.xg (LkP.xg (LkP.lts (K.1 _ _ _ _ h_z_13 g_k_16) (fun z_21 h_z_21 => (LkP.xl (fun k_22 q => have g_k_22 := K.2.2.2.2.2 _ _ _ _ h_z_21 g_x1 q; (LkP.xl (fun k_23 q => have g_k_23 := K.2.2.2.2.2 _ _ _ _ h_z_21 g_h0 q; (LkP.xg (LkP.xg (LkP.lts (K.2.1 _ _ _ _ h_z_21 g_k_22) (fun z_27 h_z_27 => (LkP.xl (fun k_28 q => have g_k_28 := K.2.2.2.2.2 _ _ _ _ h_z_27 g_x1 q; (LkP.ite (LkP.xl (fun k_50 q => have g_k_50 := K.2.2.2.2.2 _ _ _ _ h_z_27 g_h0 q; (LkP.xg (lkp_fn_X1_storeNode_B83 K h_z_27 g_k_28 g_h0 g_x1 (fun w0 w1 w2 w3 w4 w5 hw gw1 gw3 => ih w0 w1 w2 w3 w4 w5 hw gw1 gw3))))) (lkp_fn_X1_storeNode_B83 K h_z_27 g_k_28 g_h0 g_x1 (fun w0 w1 w2 w3 w4 w5 hw gw1 gw3 => ih w0 w1 w2 w3 w4 w5 hw gw1 gw3))))))))))))))))))))))))))) (lkp_fn_X1_storeNode_B16 K h_z g_h0)))))))
theorem lkp_fn_X6_findRound_B184 {F : Nat} {sh : Nat → Nat × Nat} {n : Nat} {p_13 : Int32} {ko151 : St → Int32 → Option (St × Unit)} {z_19 : St} (K : Kp Q G) (h_z_19 : Q z_19) (hko_ko151 : ∀ (w0 : St) (w1 : Int32), Q w0 → LkP Q (ko151 w0 w1)) : LkP Q (fn_X6_findRound_B184 F sh n p_13 ko151 z_19) := by
  unfold fn_X6_findRound_B184
  exact (hko_ko151 _ _ h_z_19 )
theorem lkp_fn_X6_findRound_L151 {F : Nat} {sh : Nat → Nat × Nat} {n : Nat} {v_4 : Int32} {h0 : Nat} (K : Kp Q G) (g_h0 : G h0) : ∀ (f : Nat) (v1 : St) (v2 : Int32), Q v1 → LkP Q (fn_X6_findRound_L151 F sh n v_4 h0 f v1 v2) := by
  intro f
  induction f with
  | zero => intros; exact LkP.none
  | succ f_15 ih =>
    intro z_14 p_13 h_z_14
    exact (LkP.ite (LkP.ret h_z_14) (LkP.xl (fun k_17 q => have g_k_17 := K.2.2.2.2.2 _ _ _ _ h_z_14 g_h0 q; (LkP.xg (LkP.ite (lkp_fn_X6_findRound_B184 K h_z_14 (fun z9 q2 hk_z9 => (ih _ _ hk_z9 ))) (LkP.xl (fun k_21 q => have g_k_21 := K.2.2.2.2.2 _ _ _ _ h_z_14 g_h0 q; (LkP.xg (LkP.xc (lkp_fn_X5_structureColumn K h_z_14 g_k_21) (fun z_22 r_23 h_z_22 => (LkP.xc (lkp_fn_X6_fail K h_z_22 g_h0) (fun z_26 _ h_z_26 => (lkp_fn_X6_findRound_B184 K h_z_26 (fun z9 q2 hk_z9 => (ih _ _ hk_z9 )))))))))))))))
theorem lkp_fn_X6_findRound_B137 {F : Nat} {sh : Nat → Nat × Nat} {n : Nat} {p_28 : Int32} {ko104 : St → Int32 → Option (St × Unit)} {z_34 : St} (K : Kp Q G) (h_z_34 : Q z_34) (hko_ko104 : ∀ (w0 : St) (w1 : Int32), Q w0 → LkP Q (ko104 w0 w1)) : LkP Q (fn_X6_findRound_B137 F sh n p_28 ko104 z_34) := by
  unfold fn_X6_findRound_B137
  exact (hko_ko104 _ _ h_z_34 )
theorem lkp_fn_X6_findRound_L104 {F : Nat} {sh : Nat → Nat × Nat} {n : Nat} {v_4 : Int32} {p_9 : Int32} {h0 : Nat} {ko97 : St → Int32 → Option (St × Unit)} (K : Kp Q G) (g_h0 : G h0) (hko_ko97 : ∀ (w0 : St) (w1 : Int32), Q w0 → LkP Q (ko97 w0 w1)) : ∀ (f : Nat) (v1 : St) (v2 : Int32), Q v1 → LkP Q (fn_X6_findRound_L104 F sh n v_4 p_9 h0 ko97 f v1 v2) := by
  intro f
  induction f with
  | zero => intros; exact LkP.none
  | succ f_30 ih =>
    intro z_29 p_28 h_z_29
    exact (LkP.ite (hko_ko97 _ _ h_z_29 ) (LkP.xl (fun k_32 q => have g_k_32 := K.2.2.2.2.2 _ _ _ _ h_z_29 g_h0 q; (LkP.xg (LkP.ite (lkp_fn_X6_findRound_B137 K h_z_29 (fun z9 q3 hk_z9 => (ih _ _ hk_z9 ))) (LkP.xl (fun k_36 q => have g_k_36 := K.2.2.2.2.2 _ _ _ _ h_z_29 g_h0 q; (LkP.xg (LkP.xl (fun k_38 q => have g_k_38 := K.2.2.2.2.2 _ _ _ _ h_z_29 g_h0 q; (LkP.xg (LkP.xg (LkP.lts (K.1 _ _ _ _ h_z_29 g_k_36) (fun z_42 h_z_42 => (lkp_fn_X6_findRound_B137 K h_z_42 (fun z9 q3 hk_z9 => (ih _ _ hk_z9 )))))))))))))))))
theorem lkp_fn_X6_findRound_L97 {F : Nat} {sh : Nat → Nat × Nat} {n : Nat} {v_4 : Int32} {h0 : Nat} (K : Kp Q G) (g_h0 : G h0) : ∀ (f : Nat) (v1 : St) (v2 : Int32), Q v1 → LkP Q (fn_X6_findRound_L97 F sh n v_4 h0 f v1 v2) := by
  intro f
  induction f with
  | zero => intros; exact LkP.none
  | succ f_11 ih =>
    intro z_10 p_9 h_z_10
    exact (LkP.ite (lkp_fn_X6_findRound_L151 K g_h0 _ _ _ h_z_10 ) (lkp_fn_X6_findRound_L104 K g_h0 (fun z9 q2 hk_z9 => (ih _ _ hk_z9 )) _ _ _ h_z_10 ))
theorem lkp_fn_X6_findRound_B83 {F : Nat} {sh : Nat → Nat × Nat} {n : Nat} {p_47 : Int32} {ko24 : St → Int32 → Option (St × Unit)} {z_65 : St} (K : Kp Q G) (h_z_65 : Q z_65) (hko_ko24 : ∀ (w0 : St) (w1 : Int32), Q w0 → LkP Q (ko24 w0 w1)) : LkP Q (fn_X6_findRound_B83 F sh n p_47 ko24 z_65) := by
  unfold fn_X6_findRound_B83
  exact (hko_ko24 _ _ h_z_65 )
theorem lkp_fn_X6_findRound_L24 {F : Nat} {sh : Nat → Nat × Nat} {n : Nat} {h0 : Nat} {p_5 : Int32} {v_4 : Int32} {ko10 : St → Int32 → Option (St × Unit)} (K : Kp Q G) (g_h0 : G h0) (hko_ko10 : ∀ (w0 : St) (w1 : Int32), Q w0 → LkP Q (ko10 w0 w1)) : ∀ (f : Nat) (v1 : St) (v2 : Int32), Q v1 → LkP Q (fn_X6_findRound_L24 F sh n h0 p_5 v_4 ko10 f v1 v2) := by
  intro f
  induction f with
  | zero => intros; exact LkP.none
  | succ f_49 ih =>
    intro z_48 p_47 h_z_48
    exact (LkP.xl (fun k_50 q => have g_k_50 := K.2.2.2.2.2 _ _ _ _ h_z_48 g_h0 q; (LkP.xg (LkP.xc (lkp_fn_X5_fieldCount K h_z_48 g_k_50) (fun z_51 r_52 h_z_51 => (LkP.ite (hko_ko10 _ _ h_z_51 ) (LkP.xl (fun k_56 q => have g_k_56 := K.2.2.2.2.2 _ _ _ _ h_z_51 g_h0 q; (LkP.xg (LkP.xc (lkp_fn_X5_fieldType K h_z_51 g_k_56) (fun z_57 r_58 h_z_57 => (LkP.ltv (fun v_61 => (LkP.xc (lkp_fn_X5_endsInStructure K h_z_57) (fun z_62 r_63 h_z_62 => (LkP.ite (lkp_fn_X6_findRound_B83 K h_z_62 (fun z9 q3 hk_z9 => (ih _ _ hk_z9 ))) (LkP.ite (lkp_fn_X6_findRound_B83 K h_z_62 (fun z9 q3 hk_z9 => (ih _ _ hk_z9 ))) (LkP.xl (fun k_68 q => have g_k_68 := K.2.2.2.2.2 _ _ _ _ h_z_62 g_h0 q; (LkP.xg (LkP.xg (LkP.lts (K.1 _ _ _ _ h_z_62 g_k_68) (fun z_72 h_z_72 => (lkp_fn_X6_findRound_B83 K h_z_72 (fun z9 q3 hk_z9 => (ih _ _ hk_z9 ))))))))))))))))))))))))))
theorem lkp_fn_X6_findRound_L10 {F : Nat} {sh : Nat → Nat × Nat} {n : Nat} {v_4 : Int32} {h0 : Nat} (K : Kp Q G) (g_h0 : G h0) : ∀ (f : Nat) (v1 : St) (v2 : Int32), Q v1 → LkP Q (fn_X6_findRound_L10 F sh n v_4 h0 f v1 v2) := by
  intro f
  induction f with
  | zero => intros; exact LkP.none
  | succ f_7 ih =>
    intro z_6 p_5 h_z_6
    exact (LkP.ite (lkp_fn_X6_findRound_L97 K g_h0 _ _ _ h_z_6 ) (LkP.xl (fun k_43 q => have g_k_43 := K.2.2.2.2.2 _ _ _ _ h_z_6 g_h0 q; (LkP.xg (LkP.lts (K.1 _ _ _ _ h_z_6 g_k_43) (fun z_46 h_z_46 => (lkp_fn_X6_findRound_L24 K g_h0 (fun z9 q2 hk_z9 => (ih _ _ hk_z9 )) _ _ _ h_z_46 )))))))
theorem lkp_fn_X6_findRound {F : Nat} {sh : Nat → Nat × Nat} {n : Nat} {z : St} {h0 : Nat} (K : Kp Q G) (h_z : Q z) (g_h0 : G h0) : LkP Q (fn_X6_findRound F sh n z h0) := by
  unfold fn_X6_findRound
  exact (LkP.xg (LkP.xl (fun k_2 q => have g_k_2 := K.2.2.2.2.2 _ _ _ _ h_z g_h0 q; (LkP.xg (LkP.ltv (fun v_4 => (lkp_fn_X6_findRound_L10 K g_h0 _ _ _ h_z )))))))
theorem lkp_fn_X10_divide_B204 {F : Nat} {sh : Nat → Nat × Nat} {n : Nat} {x2 : Int32} {h0 : Nat} {z_14 : St} (K : Kp Q G) (h_z_14 : Q z_14) (g_h0 : G h0) : LkP Q (fn_X10_divide_B204 F sh n x2 h0 z_14) := by
  unfold fn_X10_divide_B204
  exact (LkP.ite (LkP.ret h_z_14) (LkP.lts (K.2.1 _ _ _ _ h_z_14 g_h0) (fun z_17 h_z_17 => (LkP.lts (K.2.1 _ _ _ _ h_z_17 g_h0) (fun z_19 h_z_19 => (LkP.ret h_z_19))))))
theorem lkp_fn_X10_divide_B198 {F : Nat} {sh : Nat → Nat × Nat} {n : Nat} {p_11 : Int32} {ko34 : St → Int32 → Option (St × Unit)} {z_32 : St} (K : Kp Q G) (h_z_32 : Q z_32) (hko_ko34 : ∀ (w0 : St) (w1 : Int32), Q w0 → LkP Q (ko34 w0 w1)) : LkP Q (fn_X10_divide_B198 F sh n p_11 ko34 z_32) := by
  unfold fn_X10_divide_B198
  exact (hko_ko34 _ _ h_z_32 )
theorem lkp_fn_X10_divide_B173 {F : Nat} {sh : Nat → Nat × Nat} {n : Nat} {h0 : Nat} {z_33 : St} {x0 : Int64} {x1 : Int64} {p_11 : Int32} {ko34 : St → Int32 → Option (St × Unit)} {z_38 : St} {p_37 : Int32} (K : Kp Q G) (h_z_33 : Q z_33) (h_z_38 : Q z_38) (g_h0 : G h0) (hko_ko34 : ∀ (w0 : St) (w1 : Int32), Q w0 → LkP Q (ko34 w0 w1)) : LkP Q (fn_X10_divide_B173 F sh n h0 z_33 x0 x1 p_11 ko34 z_38 p_37) := by
  unfold fn_X10_divide_B173
  exact (LkP.lts (K.2.1 _ _ _ _ h_z_38 g_h0) (fun z_40 h_z_40 => (LkP.lts (K.2.1 _ _ _ _ h_z_40 g_h0) (fun z_42 h_z_42 => (LkP.lts (K.2.1 _ _ _ _ h_z_42 g_h0) (fun z_44 h_z_44 => (lkp_fn_X10_divide_B198 K h_z_44 (fun z9 q6 hk_z9 => (hko_ko34 _ _ hk_z9 )))))))))
theorem lkp_fn_X10_divide_B150 {F : Nat} {sh : Nat → Nat × Nat} {n : Nat} {h0 : Nat} {x1 : Int64} {x0 : Int64} {p_11 : Int32} {ko34 : St → Int32 → Option (St × Unit)} {z_33 : St} (K : Kp Q G) (h_z_33 : Q z_33) (g_h0 : G h0) (hko_ko34 : ∀ (w0 : St) (w1 : Int32), Q w0 → LkP Q (ko34 w0 w1)) : LkP Q (fn_X10_divide_B150 F sh n h0 x1 x0 p_11 ko34 z_33) := by
  unfold fn_X10_divide_B150
  exact (LkP.xc (lkp_fn_X10_below K h_z_33) (fun z_34 r_35 h_z_34 => (LkP.ite (lkp_fn_X10_divide_B173 K h_z_33 h_z_34 g_h0 (fun z9 q6 hk_z9 => (hko_ko34 _ _ hk_z9 ))) (lkp_fn_X10_divide_B173 K h_z_33 h_z_34 g_h0 (fun z9 q6 hk_z9 => (hko_ko34 _ _ hk_z9 ))))))
theorem lkp_fn_X10_divide_B63 {F : Nat} {sh : Nat → Nat × Nat} {n : Nat} {h0 : Nat} {x0 : Int64} {x1 : Int64} {p_11 : Int32} {ko34 : St → Int32 → Option (St × Unit)} {z_23 : St} {p_22 : Int32} (K : Kp Q G) (h_z_23 : Q z_23) (g_h0 : G h0) (hko_ko34 : ∀ (w0 : St) (w1 : Int32), Q w0 → LkP Q (ko34 w0 w1)) : LkP Q (fn_X10_divide_B63 F sh n h0 x0 x1 p_11 ko34 z_23 p_22) := by
  unfold fn_X10_divide_B63
  exact (LkP.lts (K.2.1 _ _ _ _ h_z_23 g_h0) (fun z_25 h_z_25 => (LkP.lts (K.2.1 _ _ _ _ h_z_25 g_h0) (fun z_27 h_z_27 => (LkP.lts (K.2.1 _ _ _ _ h_z_27 g_h0) (fun z_29 h_z_29 => (LkP.lts (K.2.1 _ _ _ _ h_z_29 g_h0) (fun z_31 h_z_31 => (LkP.ite (LkP.xc (lkp_fn_X10_compare K h_z_31) (fun z_47 r_48 h_z_47 => (LkP.ite (lkp_fn_X10_divide_B198 K h_z_47 (fun z9 q6 hk_z9 => (hko_ko34 _ _ hk_z9 ))) (lkp_fn_X10_divide_B150 K h_z_47 g_h0 (fun z9 q6 hk_z9 => (hko_ko34 _ _ hk_z9 )))))) (lkp_fn_X10_divide_B150 K h_z_31 g_h0 (fun z9 q6 hk_z9 => (hko_ko34 _ _ hk_z9 ))))))))))))
theorem lkp_fn_X10_divide_L34 {F : Nat} {sh : Nat → Nat × Nat} {n : Nat} {x2 : Int32} {h0 : Nat} {x0 : Int64} {x1 : Int64} (K : Kp Q G) (g_h0 : G h0) : ∀ (f : Nat) (v1 : St) (v2 : Int32), Q v1 → LkP Q (fn_X10_divide_L34 F sh n x2 h0 x0 x1 f v1 v2) := by
  intro f
  induction f with
  | zero => intros; exact LkP.none
  | succ f_13 ih =>
    intro z_12 p_11 h_z_12
    exact (LkP.ite (lkp_fn_X10_divide_B204 K h_z_12 g_h0) (LkP.ite (LkP.ite (lkp_fn_X10_divide_B63 K h_z_12 g_h0 (fun z9 q6 hk_z9 => (ih _ _ hk_z9 ))) (lkp_fn_X10_divide_B63 K h_z_12 g_h0 (fun z9 q6 hk_z9 => (ih _ _ hk_z9 )))) (lkp_fn_X10_divide_B204 K h_z_12 g_h0)))
theorem lkp_fn_X10_divide_B18 {F : Nat} {sh : Nat → Nat × Nat} {n : Nat} {h0 : Nat} {x2 : Int32} {x0 : Int64} {x1 : Int64} {z_2 : St} {p_1 : Int32} (K : Kp Q G) (h_z_2 : Q z_2) (g_h0 : G h0) : LkP Q (fn_X10_divide_B18 F sh n h0 x2 x0 x1 z_2 p_1) := by
  unfold fn_X10_divide_B18
  exact (LkP.xg (LkP.xg (LkP.lts (K.1 _ _ _ _ h_z_2 g_h0) (fun z_6 h_z_6 => (LkP.lts (K.2.1 _ _ _ _ h_z_6 g_h0) (fun z_8 h_z_8 => (LkP.lts (K.2.1 _ _ _ _ h_z_8 g_h0) (fun z_10 h_z_10 => (lkp_fn_X10_divide_L34 K g_h0 _ _ _ h_z_10 )))))))))
theorem lkp_fn_X10_divide_B17 {F : Nat} {sh : Nat → Nat × Nat} {n : Nat} {h0 : Nat} {x2 : Int32} {x0 : Int64} {x1 : Int64} {z_52 : St} (K : Kp Q G) (h_z_52 : Q z_52) (g_h0 : G h0) : LkP Q (fn_X10_divide_B17 F sh n h0 x2 x0 x1 z_52) := by
  unfold fn_X10_divide_B17
  exact (lkp_fn_X10_divide_B18 K h_z_52 g_h0)
theorem lkp_fn_X10_divide {F : Nat} {sh : Nat → Nat × Nat} {n : Nat} {z : St} {h0 : Nat} {x0 : Int64} {x1 : Int64} {x2 : Int32} (K : Kp Q G) (h_z : Q z) (g_h0 : G h0) : LkP Q (fn_X10_divide F sh n z h0 x0 x1 x2) := by
  unfold fn_X10_divide
  exact (LkP.ite (LkP.ite (lkp_fn_X10_divide_B18 K h_z g_h0) (lkp_fn_X10_divide_B17 K h_z g_h0)) (lkp_fn_X10_divide_B17 K h_z g_h0))
theorem lkp_fn_X16_lookInstruction_B93 {F : Nat} {sh : Nat → Nat × Nat} {n : Nat} {h0 : Nat} {x0 : Int32} {z_7 : St} (K : Kp Q G) (h_z_7 : Q z_7) (g_h0 : G h0) : LkP Q (fn_X16_lookInstruction_B93 F sh n h0 x0 z_7) := by
  unfold fn_X16_lookInstruction_B93
  exact (LkP.xc (lkp_fn_X16_lookOwn K h_z_7 g_h0) (fun z_8 _ h_z_8 => (LkP.xc (lkp_fn_X16_isGood K h_z_8 g_h0) (fun z_10 r_11 h_z_10 => (LkP.ite (LkP.ret h_z_10) (LkP.xc (lkp_fn_X16_byteAt K h_z_10 g_h0) (fun z_14 r_15 h_z_14 => (LkP.xc (lkp_fn_X16_byteAt K h_z_14 g_h0) (fun z_17 r_18 h_z_17 => (LkP.xc (lkp_fn_X16_fieldsOf K h_z_17 g_h0) (fun z_20 r_21 h_z_20 => (LkP.ite (LkP.ret h_z_20) (LkP.xc (lkp_fn_X16_fail K h_z_20 g_h0) (fun z_24 _ h_z_24 => (LkP.ret h_z_24)))))))))))))))
theorem lkp_fn_X16_lookInstruction_B178 {F : Nat} {sh : Nat → Nat × Nat} {n : Nat} {r_2 : Int32} {h0 : Nat} {x0 : Int32} {z_34 : St} (K : Kp Q G) (h_z_34 : Q z_34) (g_h0 : G h0) : LkP Q (fn_X16_lookInstruction_B178 F sh n r_2 h0 x0 z_34) := by
  unfold fn_X16_lookInstruction_B178
  exact (LkP.ite (LkP.xc (lkp_fn_X16_byteAt K h_z_34 g_h0) (fun z_44 r_45 h_z_44 => (LkP.ite (LkP.ret h_z_44) (LkP.xc (lkp_fn_X16_fail K h_z_44 g_h0) (fun z_48 _ h_z_48 => (LkP.ret h_z_48)))))) (LkP.ite (LkP.ret h_z_34) (LkP.ite (LkP.ret h_z_34) (LkP.xc (lkp_fn_X16_byteAt K h_z_34 g_h0) (fun z_38 r_39 h_z_38 => (LkP.ite (LkP.ret h_z_38) (LkP.xc (lkp_fn_X16_fail K h_z_38 g_h0) (fun z_42 _ h_z_42 => (LkP.ret h_z_42)))))))))
theorem lkp_fn_X16_lookInstruction_B79 {F : Nat} {sh : Nat → Nat × Nat} {n : Nat} {r_2 : Int32} {h0 : Nat} {x0 : Int32} {z_6 : St} (K : Kp Q G) (h_z_6 : Q z_6) (g_h0 : G h0) : LkP Q (fn_X16_lookInstruction_B79 F sh n r_2 h0 x0 z_6) := by
  unfold fn_X16_lookInstruction_B79
  exact (LkP.ite (lkp_fn_X16_lookInstruction_B93 K h_z_6 g_h0) (LkP.ite (lkp_fn_X16_lookInstruction_B93 K h_z_6 g_h0) (LkP.ite (LkP.xc (lkp_fn_X16_lookOwn K h_z_6 g_h0) (fun z_29 _ h_z_29 => (LkP.ret h_z_29))) (LkP.ite (LkP.xc (lkp_fn_X16_lookOwn K h_z_6 g_h0) (fun z_32 _ h_z_32 => (LkP.ret h_z_32))) (LkP.ite (lkp_fn_X16_lookInstruction_B178 K h_z_6 g_h0) (LkP.ite (lkp_fn_X16_lookInstruction_B178 K h_z_6 g_h0) (LkP.xc (lkp_fn_X16_lookOwn K h_z_6 g_h0) (fun z_52 _ h_z_52 => (LkP.ret h_z_52)))))))))
theorem lkp_fn_X16_lookInstruction_B42 {F : Nat} {sh : Nat → Nat × Nat} {n : Nat} {r_2 : Int32} {h0 : Nat} {x0 : Int32} {x1 : Int32} {z_5 : St} (K : Kp Q G) (h_z_5 : Q z_5) (g_h0 : G h0) : LkP Q (fn_X16_lookInstruction_B42 F sh n r_2 h0 x0 x1 z_5) := by
  unfold fn_X16_lookInstruction_B42
  exact (LkP.ite (lkp_fn_X16_lookInstruction_B79 K h_z_5 g_h0) (LkP.ite (lkp_fn_X16_lookInstruction_B79 K h_z_5 g_h0) (LkP.xc (lkp_fn_X16_byteAt K h_z_5 g_h0) (fun z_56 r_57 h_z_56 => (LkP.ite (LkP.ret h_z_56) (LkP.xc (lkp_fn_X16_fail K h_z_56 g_h0) (fun z_60 _ h_z_60 => (LkP.ret h_z_60))))))))
theorem lkp_fn_X16_lookInstruction {F : Nat} {sh : Nat → Nat × Nat} {n : Nat} {z : St} {h0 : Nat} {x0 : Int32} {x1 : Int32} {x2 : Int32} (K : Kp Q G) (h_z : Q z) (g_h0 : G h0) : LkP Q (fn_X16_lookInstruction F sh n z h0 x0 x1 x2) := by
  unfold fn_X16_lookInstruction
  exact (LkP.xg (LkP.xc (lkp_fn_X16_byteAt K h_z g_h0) (fun z_1 r_2 h_z_1 => (LkP.ite (lkp_fn_X16_lookInstruction_B42 K h_z_1 g_h0) (LkP.ite (lkp_fn_X16_lookInstruction_B42 K h_z_1 g_h0) (LkP.xc (lkp_fn_X16_shortAt K h_z_1 g_h0) (fun z_64 r_65 h_z_64 => (LkP.ite (LkP.ret h_z_64) (LkP.xc (lkp_fn_X16_fail K h_z_64 g_h0) (fun z_68 _ h_z_68 => (LkP.ret h_z_68)))))))))))
theorem lkp_fn_X14_put_L94 {F : Nat} {sh : Nat → Nat × Nat} {n : Nat} {h0 : Nat} {p_10 : Int32} {ko84 : St → Int32 → Option (St × Unit)} (K : Kp Q G) (g_h0 : G h0) (hko_ko84 : ∀ (w0 : St) (w1 : Int32), Q w0 → LkP Q (ko84 w0 w1)) : ∀ (f : Nat) (v1 : St) (v2 : Int32), Q v1 → LkP Q (fn_X14_put_L94 F sh n h0 p_10 ko84 f v1 v2) := by
  intro f
  induction f with
  | zero => intros; exact LkP.none
  | succ f_20 ih =>
    intro z_19 p_18 h_z_19
    exact (LkP.ite (LkP.xl (fun k_22 q => have g_k_22 := K.2.2.2.2.2 _ _ _ _ h_z_19 g_h0 q; (LkP.xl (fun k_23 q => have g_k_23 := K.2.2.2.2.2 _ _ _ _ h_z_19 g_h0 q; (LkP.xg (LkP.xg (LkP.lts (K.1 _ _ _ _ h_z_19 g_k_22) (fun z_27 h_z_27 => (LkP.xl (fun k_28 q => have g_k_28 := K.2.2.2.2.2 _ _ _ _ h_z_27 g_h0 q; (LkP.xl (fun k_29 q => have g_k_29 := K.2.2.2.2.2 _ _ _ _ h_z_27 g_h0 q; (LkP.xg (LkP.xg (LkP.lts (K.2.1 _ _ _ _ h_z_27 g_k_28) (fun z_33 h_z_33 => (LkP.xl (fun k_34 q => have g_k_34 := K.2.2.2.2.2 _ _ _ _ h_z_33 g_h0 q; (LkP.xl (fun k_35 q => have g_k_35 := K.2.2.2.2.2 _ _ _ _ h_z_33 g_h0 q; (LkP.xg (LkP.xg (LkP.lts (K.1 _ _ _ _ h_z_33 g_k_34) (fun z_39 h_z_39 => (hko_ko84 _ _ h_z_39 ))))))))))))))))))))))))) (LkP.xl (fun k_40 q => have g_k_40 := K.2.2.2.2.2 _ _ _ _ h_z_19 g_h0 q; (LkP.xl (fun k_41 q => have g_k_41 := K.2.2.2.2.2 _ _ _ _ h_z_19 g_h0 q; (LkP.xg (LkP.xg (LkP.lts (K.2.1 _ _ _ _ h_z_19 g_k_40) (fun z_45 h_z_45 => (LkP.xl (fun k_46 q => have g_k_46 := K.2.2.2.2.2 _ _ _ _ h_z_45 g_h0 q; (LkP.xl (fun k_47 q => have g_k_47 := K.2.2.2.2.2 _ _ _ _ h_z_45 g_h0 q; (LkP.xg (LkP.xg (LkP.lts (K.2.1 _ _ _ _ h_z_45 g_k_46) (fun z_51 h_z_51 => (ih _ _ h_z_51 ))))))))))))))))))
theorem lkp_fn_X14_put_L84 {F : Nat} {sh : Nat → Nat × Nat} {n : Nat} {p_6 : Int32} {h0 : Nat} {x0 : Nat} {x1 : Nat} {x2 : Int32} {x3 : Int64} {x4 : Int32} (K : Kp Q G) (g_h0 : G h0) (g_x0 : G x0) (g_x1 : G x1) : ∀ (f : Nat) (v1 : St) (v2 : Int32), Q v1 → LkP Q (fn_X14_put_L84 F sh n p_6 h0 x0 x1 x2 x3 x4 f v1 v2) := by
  intro f
  induction f with
  | zero => intros; exact LkP.none
  | succ f_12 ih =>
    intro z_11 p_10 h_z_11
    exact (LkP.ite (LkP.xc (lkp_fn_X14_keep K h_z_11 g_h0 g_x0 g_x1) (fun z_14 _ h_z_14 => (LkP.lts (K.1 _ _ _ _ h_z_14 g_h0) (fun z_17 h_z_17 => (LkP.ret h_z_17))))) (lkp_fn_X14_put_L94 K g_h0 (fun z9 q8 hk_z9 => (ih _ _ hk_z9 )) _ _ _ h_z_11 ))
theorem lkp_fn_X14_put_B78 {F : Nat} {sh : Nat → Nat × Nat} {n : Nat} {h0 : Nat} {p_6 : Int32} {x0 : Nat} {x1 : Nat} {x2 : Int32} {x3 : Int64} {x4 : Int32} {z_8 : St} (K : Kp Q G) (h_z_8 : Q z_8) (g_h0 : G h0) (g_x0 : G x0) (g_x1 : G x1) : LkP Q (fn_X14_put_B78 F sh n h0 p_6 x0 x1 x2 x3 x4 z_8) := by
  unfold fn_X14_put_B78
  exact (LkP.ltv (fun v_9 => (lkp_fn_X14_put_L84 K g_h0 g_x0 g_x1 _ _ _ h_z_8 )))
theorem lkp_fn_X14_put_B29 {F : Nat} {sh : Nat → Nat × Nat} {n : Nat} {h0 : Nat} {x0 : Nat} {x1 : Nat} {x2 : Int32} {x3 : Int64} {x4 : Int32} {z_7 : St} {p_6 : Int32} (K : Kp Q G) (h_z_7 : Q z_7) (g_h0 : G h0) (g_x0 : G x0) (g_x1 : G x1) : LkP Q (fn_X14_put_B29 F sh n h0 x0 x1 x2 x3 x4 z_7 p_6) := by
  unfold fn_X14_put_B29
  exact (LkP.ite (lkp_fn_X14_put_B78 K h_z_7 g_h0 g_x0 g_x1) (LkP.xc (lkp_fn_X14_isAt K h_z_7 g_h0 g_x0) (fun z_53 r_54 h_z_53 => (LkP.ite (lkp_fn_X14_put_B78 K h_z_53 g_h0 g_x0 g_x1) (LkP.xc (lkp_fn_X14_isLess K h_z_53 g_h0) (fun z_57 r_58 h_z_57 => (LkP.ite (LkP.xc (lkp_fn_X14_keep K h_z_57 g_h0 g_x0 g_x1) (fun z_61 _ h_z_61 => (LkP.ret h_z_61))) (LkP.ret h_z_57))))))))
theorem lkp_fn_X14_put_L6 {F : Nat} {sh : Nat → Nat × Nat} {n : Nat} {h0 : Nat} {x0 : Nat} {x1 : Nat} {x2 : Int32} {x3 : Int64} {x4 : Int32} (K : Kp Q G) (g_h0 : G h0) (g_x0 : G x0) (g_x1 : G x1) : ∀ (f : Nat) (v1 : St) (v2 : Int32), Q v1 → LkP Q (fn_X14_put_L6 F sh n h0 x0 x1 x2 x3 x4 f v1 v2) := by
  intro f
  induction f with
  | zero => intros; exact LkP.none
  | succ f_5 ih =>
    intro z_4 p_3 h_z_4
    exact (LkP.ite (lkp_fn_X14_put_B29 K h_z_4 g_h0 g_x0 g_x1) (LkP.xc (lkp_fn_X14_isBehind K h_z_4 g_h0 g_x0) (fun z_64 r_65 h_z_64 => (LkP.ite (lkp_fn_X14_put_B29 K h_z_64 g_h0 g_x0 g_x1) (ih _ _ h_z_64 )))))
theorem lkp_fn_X14_put {F : Nat} {sh : Nat → Nat × Nat} {n : Nat} {z : St} {h0 : Nat} {x0 : Nat} {x1 : Nat} {x2 : Int32} {x3 : Int64} {x4 : Int32} (K : Kp Q G) (h_z : Q z) (g_h0 : G h0) (g_x0 : G x0) (g_x1 : G x1) : LkP Q (fn_X14_put F sh n z h0 x0 x1 x2 x3 x4) := by
  unfold fn_X14_put
  exact (LkP.xg (LkP.ltv (fun v_2 => (lkp_fn_X14_put_L6 K g_h0 g_x0 g_x1 _ _ _ h_z ))))
theorem lkp_fn_X13_give {F : Nat} {sh : Nat → Nat × Nat} {n : Nat} {z : St} {h0 : Nat} {x0 : Int64} (K : Kp Q G) (h_z : Q z) (g_h0 : G h0) : LkP Q (fn_X13_give F sh n z h0 x0) := by
  unfold fn_X13_give
  exact (LkP.xg (LkP.xc (lkp_fn_X13_push K h_z g_h0) (fun z_1 _ h_z_1 => (LkP.ret h_z_1))))
theorem lkp_fn_X16_element {F : Nat} {sh : Nat → Nat × Nat} {n : Nat} {z : St} {h0 : Nat} {x0 : Int32} (K : Kp Q G) (h_z : Q z) (g_h0 : G h0) : LkP Q (fn_X16_element F sh n z h0 x0) := by
  unfold fn_X16_element
  exact (LkP.xg (LkP.xl (fun k_2 q => have g_k_2 := K.2.2.2.2.2 _ _ _ _ h_z g_h0 q; (LkP.xg (LkP.xc (lkp_fn_X16_typeAt K h_z g_h0) (fun z_4 r_5 h_z_4 => (LkP.ret h_z_4)))))))
theorem lkp_fn_X18_addBytes {F : Nat} {sh : Nat → Nat × Nat} {n : Nat} {z : St} {h0 : Nat} {x0 : Int32} (K : Kp Q G) (h_z : Q z) (g_h0 : G h0) : LkP Q (fn_X18_addBytes F sh n z h0 x0) := by
  unfold fn_X18_addBytes
  exact (LkP.xg (LkP.lts (K.1 _ _ _ _ h_z g_h0) (fun z_3 h_z_3 => (LkP.xc (lkp_fn_X18_addOne K  _ _ _ h_z_3 g_h0) (fun z_4 _ h_z_4 => (LkP.ret h_z_4))))))
theorem lkp_fn_X13_has {F : Nat} {sh : Nat → Nat × Nat} {n : Nat} {z : St} {h0 : Nat} {x0 : Int64} {x1 : Int32} (K : Kp Q G) (h_z : Q z) (g_h0 : G h0) : LkP Q (fn_X13_has F sh n z h0 x0 x1) := by
  unfold fn_X13_has
  exact (LkP.xg (LkP.xc (lkp_fn_X13_abilitiesFor K h_z g_h0) (fun z_1 r_2 h_z_1 => (LkP.ite (LkP.ret h_z_1) (LkP.ret h_z_1)))))
theorem lkp_fn_X9_keepValue {F : Nat} {sh : Nat → Nat × Nat} {n : Nat} {z : St} {h0 : Nat} (K : Kp Q G) (h_z : Q z) (g_h0 : G h0) : LkP Q (fn_X9_keepValue F sh n z h0) := by
  unfold fn_X9_keepValue
  exact (LkP.xg (LkP.xl (fun k_2 q => have g_k_2 := K.2.2.2.2.2 _ _ _ _ h_z g_h0 q; (LkP.xg (LkP.xc (lkp_fn_X0_finish K h_z g_k_2) (fun z_3 _ h_z_3 => (LkP.xl (fun k_6 q => have g_k_6 := K.2.2.2.2.2 _ _ _ _ h_z_3 g_h0 q; (LkP.xl (fun k_7 q => have g_k_7 := K.2.2.2.2.2 _ _ _ _ h_z_3 g_h0 q; (LkP.xg (LkP.xc (lkp_fn_X0_copyTo K h_z_3 g_k_6 g_k_7) (fun z_8 _ h_z_8 => (LkP.ret h_z_8))))))))))))))
theorem lkp_fn_X6_readList {F : Nat} {sh : Nat → Nat × Nat} {n : Nat} {z : St} {h0 : Nat} {x0 : Int32} (K : Kp Q G) (h_z : Q z) (g_h0 : G h0) : LkP Q (fn_X6_readList F sh n z h0 x0) := by
  unfold fn_X6_readList
  exact (LkP.xg (LkP.xc (lkp_fn_X6_readNumber K h_z g_h0) (fun z_1 r_2 h_z_1 => (LkP.xc (lkp_fn_X6_readTypes K h_z_1 g_h0) (fun z_5 _ h_z_5 => (LkP.ret h_z_5))))))
theorem lkp_fn_X9_putNothing_L2 {F : Nat} {sh : Nat → Nat × Nat} {n : Nat} {h0 : Nat} (K : Kp Q G) (g_h0 : G h0) : ∀ (f : Nat) (v1 : St) (v2 : Int32), Q v1 → LkP Q (fn_X9_putNothing_L2 F sh n h0 f v1 v2) := by
  intro f
  induction f with
  | zero => intros; exact LkP.none
  | succ f_3 ih =>
    intro z_2 p_1 h_z_2
    exact (LkP.ite (LkP.ret h_z_2) (LkP.xg (LkP.xl (fun k_6 q => have g_k_6 := K.2.2.2.2.2 _ _ _ _ h_z_2 g_h0 q; (LkP.xg (LkP.xc (lkp_fn_X0_putLong K h_z_2 g_k_6) (fun z_7 _ h_z_7 => (ih _ _ h_z_7 ))))))))
theorem lkp_fn_X9_putNothing {F : Nat} {sh : Nat → Nat × Nat} {n : Nat} {z : St} {h0 : Nat} (K : Kp Q G) (h_z : Q z) (g_h0 : G h0) : LkP Q (fn_X9_putNothing F sh n z h0) := by
  unfold fn_X9_putNothing
  exact (lkp_fn_X9_putNothing_L2 K g_h0 _ _ _ h_z )
theorem lkp_fn_X1_store {F : Nat} {sh : Nat → Nat × Nat} {n : Nat} {z : St} {h0 : Nat} {x0 : Int32} {x1 : Nat} {x2 : Int32} (K : Kp Q G) (h_z : Q z) (g_h0 : G h0) (g_x1 : G x1) : LkP Q (fn_X1_store F sh n z h0 x0 x1 x2) := by
  unfold fn_X1_store
  exact (LkP.xg (LkP.xc (lkp_fn_X1_storeNode K  _ _ _ _ _ _ _ h_z g_h0 g_x1) (fun z_1 r_2 h_z_1 => (LkP.ret h_z_1))))
theorem lkp_fn_X4_pushCopy {F : Nat} {sh : Nat → Nat × Nat} {n : Nat} {z : St} {h0 : Nat} {x0 : Int32} (K : Kp Q G) (h_z : Q z) (g_h0 : G h0) : LkP Q (fn_X4_pushCopy F sh n z h0 x0) := by
  unfold fn_X4_pushCopy
  exact (LkP.xg (LkP.xl (fun k_2 q => have g_k_2 := K.2.2.2.2.2 _ _ _ _ h_z g_h0 q; (LkP.xg (LkP.xc (lkp_fn_X1_sizeOf K h_z g_k_2) (fun z_3 r_4 h_z_3 => (LkP.xc (lkp_fn_X4_pay K h_z_3 g_h0) (fun z_7 r_8 h_z_7 => (LkP.ite (LkP.ret h_z_7) (LkP.xl (fun k_11 q => have g_k_11 := K.2.2.2.2.2 _ _ _ _ h_z_7 g_h0 q; (LkP.xg (LkP.xc (lkp_fn_X1_copyOf K h_z_7 g_k_11) (fun z_12 r_13 h_z_12 => (LkP.xc (lkp_fn_X4_push K h_z_12 g_h0) (fun z_16 _ h_z_16 => (LkP.ret h_z_16)))))))))))))))))
theorem lkp_fn_X0_putLongs_L2 {F : Nat} {sh : Nat → Nat × Nat} {n : Nat} {x0 : Nat} {x1 : Int32} {h0 : Nat} (K : Kp Q G) (g_x0 : G x0) (g_h0 : G h0) : ∀ (f : Nat) (v1 : St) (v2 : Int32), Q v1 → LkP Q (fn_X0_putLongs_L2 F sh n x0 x1 h0 f v1 v2) := by
  intro f
  induction f with
  | zero => intros; exact LkP.none
  | succ f_3 ih =>
    intro z_2 p_1 h_z_2
    exact (LkP.ite (LkP.ret h_z_2) (LkP.xg (LkP.xg (LkP.xc (lkp_fn_X0_putLong K h_z_2 g_h0) (fun z_6 _ h_z_6 => (ih _ _ h_z_6 ))))))
theorem lkp_fn_X0_putLongs {F : Nat} {sh : Nat → Nat × Nat} {n : Nat} {z : St} {h0 : Nat} {x0 : Nat} {x1 : Int32} (K : Kp Q G) (h_z : Q z) (g_h0 : G h0) (g_x0 : G x0) : LkP Q (fn_X0_putLongs F sh n z h0 x0 x1) := by
  unfold fn_X0_putLongs
  exact (lkp_fn_X0_putLongs_L2 K g_x0 g_h0 _ _ _ h_z )
theorem lkp_fn_X18_findModule_L5 {F : Nat} {sh : Nat → Nat × Nat} {n : Nat} {h0 : Nat} {x0 : Int32} (K : Kp Q G) (g_h0 : G h0) : ∀ (f : Nat) (v1 : St) (v2 : Int32), Q v1 → LkP Q (fn_X18_findModule_L5 F sh n h0 x0 f v1 v2) := by
  intro f
  induction f with
  | zero => intros; exact LkP.none
  | succ f_5 ih =>
    intro z_4 p_3 h_z_4
    exact (LkP.ite (LkP.ret h_z_4) (LkP.xl (fun k_7 q => have g_k_7 := K.2.2.2.2.2 _ _ _ _ h_z_4 g_h0 q; (LkP.xg (LkP.xl (fun k_9 q => have g_k_9 := K.2.2.2.2.2 _ _ _ _ h_z_4 g_k_7 q; (LkP.xg (LkP.xc (lkp_fn_X16_number K h_z_4 g_k_9) (fun z_10 r_11 h_z_10 => (LkP.ite (LkP.ret h_z_10) (ih _ _ h_z_10 )))))))))))
theorem lkp_fn_X18_findModule {F : Nat} {sh : Nat → Nat × Nat} {n : Nat} {z : St} {h0 : Nat} {x0 : Int32} (K : Kp Q G) (h_z : Q z) (g_h0 : G h0) : LkP Q (fn_X18_findModule F sh n z h0 x0) := by
  unfold fn_X18_findModule
  exact (LkP.xg (LkP.ltv (fun v_2 => (lkp_fn_X18_findModule_L5 K g_h0 _ _ _ h_z ))))
theorem lkp_fn_X18_take {F : Nat} {sh : Nat → Nat × Nat} {n : Nat} {z : St} {h0 : Nat} {x0 : Int32} (K : Kp Q G) (h_z : Q z) (g_h0 : G h0) : LkP Q (fn_X18_take F sh n z h0 x0) := by
  unfold fn_X18_take
  exact (LkP.xg (LkP.xc (lkp_fn_X18_takeAny K h_z g_h0) (fun z_1 r_2 h_z_1 => (LkP.xc (lkp_fn_X18_goesOn K h_z_1 g_h0) (fun z_5 r_6 h_z_5 => (LkP.ite (LkP.ret h_z_5) (LkP.xl (fun k_9 q => have g_k_9 := K.2.2.2.2.2 _ _ _ _ h_z_5 g_h0 q; (LkP.xg (LkP.xl (fun k_11 q => have g_k_11 := K.2.2.2.2.2 _ _ _ _ h_z_5 g_k_9 q; (LkP.xg (LkP.ite (LkP.ret h_z_5) (LkP.xc (lkp_fn_X18_slip K h_z_5 g_h0) (fun z_14 _ h_z_14 => (LkP.ret h_z_14))))))))))))))))
theorem lkp_fn_X16_overList_L10 {F : Nat} {sh : Nat → Nat × Nat} {n : Nat} {r_2 : Int32} {h0 : Nat} {x1 : Int32} (K : Kp Q G) (g_h0 : G h0) : ∀ (f : Nat) (v1 : St) (v2 : Int32), Q v1 → LkP Q (fn_X16_overList_L10 F sh n r_2 h0 x1 f v1 v2) := by
  intro f
  induction f with
  | zero => intros; exact LkP.none
  | succ f_7 ih =>
    intro z_6 p_5 h_z_6
    exact (LkP.ite (LkP.ret h_z_6) (LkP.xc (lkp_fn_X16_isGood K h_z_6 g_h0) (fun z_9 r_10 h_z_9 => (LkP.ite (LkP.ret h_z_9) (LkP.xc (lkp_fn_X16_overType K h_z_9 g_h0) (fun z_13 _ h_z_13 => (ih _ _ h_z_13 )))))))
theorem lkp_fn_X16_overList {F : Nat} {sh : Nat → Nat × Nat} {n : Nat} {z : St} {h0 : Nat} {x0 : Int32} {x1 : Int32} (K : Kp Q G) (h_z : Q z) (g_h0 : G h0) : LkP Q (fn_X16_overList F sh n z h0 x0 x1) := by
  unfold fn_X16_overList
  exact (LkP.xg (LkP.xc (lkp_fn_X16_count K h_z g_h0) (fun z_1 r_2 h_z_1 => (lkp_fn_X16_overList_L10 K g_h0 _ _ _ h_z_1 ))))
theorem lkp_fn_X16_listAt_L12 {F : Nat} {sh : Nat → Nat × Nat} {n : Nat} {x1 : Int32} {h0 : Nat} (K : Kp Q G) (g_h0 : G h0) : ∀ (f : Nat) (v1 : St) (v2 : Int32) (v3 : Int32), Q v1 → LkP Q (fn_X16_listAt_L12 F sh n x1 h0 f v1 v2 v3) := by
  intro f
  induction f with
  | zero => intros; exact LkP.none
  | succ f_8 ih =>
    intro z_7 p_5 p_6 h_z_7
    exact (LkP.ite (LkP.ret h_z_7) (LkP.xc (lkp_fn_X16_listEnd K h_z_7 g_h0) (fun z_10 r_11 h_z_10 => (ih _ _ _ h_z_10 ))))
theorem lkp_fn_X16_listAt {F : Nat} {sh : Nat → Nat × Nat} {n : Nat} {z : St} {h0 : Nat} {x0 : Int32} {x1 : Int32} (K : Kp Q G) (h_z : Q z) (g_h0 : G h0) : LkP Q (fn_X16_listAt F sh n z h0 x0 x1) := by
  unfold fn_X16_listAt
  exact (LkP.xg (LkP.xl (fun k_2 q => have g_k_2 := K.2.2.2.2.2 _ _ _ _ h_z g_h0 q; (LkP.xg (LkP.ltv (fun v_4 => (lkp_fn_X16_listAt_L12 K g_h0 _ _ _ _ h_z )))))))
theorem lkp_fn_X16_lookList_L13 {F : Nat} {sh : Nat → Nat × Nat} {n : Nat} {r_2 : Int32} {h0 : Nat} (K : Kp Q G) (g_h0 : G h0) : ∀ (f : Nat) (v1 : St) (v2 : Int32) (v3 : Int32), Q v1 → LkP Q (fn_X16_lookList_L13 F sh n r_2 h0 f v1 v2 v3) := by
  intro f
  induction f with
  | zero => intros; exact LkP.none
  | succ f_9 ih =>
    intro z_8 p_6 p_7 h_z_8
    exact (LkP.ite (LkP.ret h_z_8) (LkP.xc (lkp_fn_X16_lookType K h_z_8 g_h0) (fun z_11 r_12 h_z_11 => (ih _ _ _ h_z_11 ))))
theorem lkp_fn_X16_lookList {F : Nat} {sh : Nat → Nat × Nat} {n : Nat} {z : St} {h0 : Nat} {x0 : Int32} (K : Kp Q G) (h_z : Q z) (g_h0 : G h0) : LkP Q (fn_X16_lookList F sh n z h0 x0) := by
  unfold fn_X16_lookList
  exact (LkP.xg (LkP.xc (lkp_fn_X16_byteAt K h_z g_h0) (fun z_1 r_2 h_z_1 => (LkP.ltv (fun v_5 => (lkp_fn_X16_lookList_L13 K g_h0 _ _ _ _ h_z_1 ))))))
theorem lkp_fn_X18_keepFour_L9 {F : Nat} {sh : Nat → Nat × Nat} {n : Nat} {h0 : Nat} {x0 : Nat} (K : Kp Q G) (g_h0 : G h0) (g_x0 : G x0) : ∀ (f : Nat) (v1 : St) (v2 : Int32), Q v1 → LkP Q (fn_X18_keepFour_L9 F sh n h0 x0 f v1 v2) := by
  intro f
  induction f with
  | zero => intros; exact LkP.none
  | succ f_8 ih =>
    intro z_7 p_6 h_z_7
    exact (LkP.ite (LkP.xl (fun k_10 q => have g_k_10 := K.2.2.2.2.2 _ _ _ _ h_z_7 g_h0 q; (LkP.xg (LkP.xc (lkp_fn_X12_begin K h_z_7 g_k_10) (fun z_11 _ h_z_11 => (LkP.ret h_z_11)))))) (LkP.xl (fun k_14 q => have g_k_14 := K.2.2.2.2.2 _ _ _ _ h_z_7 g_h0 q; (LkP.xg (LkP.xc (lkp_fn_X12_four K h_z_7 g_k_14) (fun z_15 r_16 h_z_15 => (LkP.xg (LkP.lts (K.2.1 _ _ _ _ h_z_15 g_x0) (fun z_21 h_z_21 => (ih _ _ h_z_21 ))))))))))
theorem lkp_fn_X18_keepFour {F : Nat} {sh : Nat → Nat × Nat} {n : Nat} {z : St} {h0 : Nat} {x0 : Nat} (K : Kp Q G) (h_z : Q z) (g_h0 : G h0) (g_x0 : G x0) : LkP Q (fn_X18_keepFour F sh n z h0 x0) := by
  unfold fn_X18_keepFour
  exact (LkP.xg (LkP.xl (fun k_2 q => have g_k_2 := K.2.2.2.2.2 _ _ _ _ h_z g_h0 q; (LkP.xg (LkP.xc (lkp_fn_X12_end K h_z g_k_2) (fun z_3 _ h_z_3 => (lkp_fn_X18_keepFour_L9 K g_h0 g_x0 _ _ _ h_z_3 )))))))
theorem lkp_fn_X16_field_L12 {F : Nat} {sh : Nat → Nat × Nat} {n : Nat} {x1 : Int32} {h0 : Nat} (K : Kp Q G) (g_h0 : G h0) : ∀ (f : Nat) (v1 : St) (v2 : Int32) (v3 : Int32), Q v1 → LkP Q (fn_X16_field_L12 F sh n x1 h0 f v1 v2 v3) := by
  intro f
  induction f with
  | zero => intros; exact LkP.none
  | succ f_8 ih =>
    intro z_7 p_5 p_6 h_z_7
    exact (LkP.ite (LkP.xc (lkp_fn_X16_typeAt K h_z_7 g_h0) (fun z_10 r_11 h_z_10 => (LkP.ret h_z_10))) (LkP.xc (lkp_fn_X16_typeEnd K h_z_7 g_h0) (fun z_13 r_14 h_z_13 => (ih _ _ _ h_z_13 ))))
theorem lkp_fn_X16_field {F : Nat} {sh : Nat → Nat × Nat} {n : Nat} {z : St} {h0 : Nat} {x0 : Int32} {x1 : Int32} (K : Kp Q G) (h_z : Q z) (g_h0 : G h0) : LkP Q (fn_X16_field F sh n z h0 x0 x1) := by
  unfold fn_X16_field
  exact (LkP.xg (LkP.xl (fun k_2 q => have g_k_2 := K.2.2.2.2.2 _ _ _ _ h_z g_h0 q; (LkP.xg (LkP.ltv (fun v_4 => (lkp_fn_X16_field_L12 K g_h0 _ _ _ _ h_z )))))))
theorem lkp_fn_X14_keepHash_L9 {F : Nat} {sh : Nat → Nat × Nat} {n : Nat} {h0 : Nat} {x0 : Int32} (K : Kp Q G) (g_h0 : G h0) : ∀ (f : Nat) (v1 : St) (v2 : Int32), Q v1 → LkP Q (fn_X14_keepHash_L9 F sh n h0 x0 f v1 v2) := by
  intro f
  induction f with
  | zero => intros; exact LkP.none
  | succ f_8 ih =>
    intro z_7 p_6 h_z_7
    exact (LkP.ite (LkP.ret h_z_7) (LkP.xl (fun k_10 q => have g_k_10 := K.2.2.2.2.2 _ _ _ _ h_z_7 g_h0 q; (LkP.xl (fun k_11 q => have g_k_11 := K.2.2.2.2.2 _ _ _ _ h_z_7 g_h0 q; (LkP.xg (LkP.xc (lkp_fn_X12_four K h_z_7 g_k_11) (fun z_12 r_13 h_z_12 => (LkP.xg (LkP.lts (K.2.1 _ _ _ _ h_z_12 g_k_10) (fun z_18 h_z_18 => (ih _ _ h_z_18 ))))))))))))
theorem lkp_fn_X14_keepHash {F : Nat} {sh : Nat → Nat × Nat} {n : Nat} {z : St} {h0 : Nat} {x0 : Int32} (K : Kp Q G) (h_z : Q z) (g_h0 : G h0) : LkP Q (fn_X14_keepHash F sh n z h0 x0) := by
  unfold fn_X14_keepHash
  exact (LkP.xg (LkP.xl (fun k_2 q => have g_k_2 := K.2.2.2.2.2 _ _ _ _ h_z g_h0 q; (LkP.xg (LkP.xc (lkp_fn_X12_end K h_z g_k_2) (fun z_3 _ h_z_3 => (lkp_fn_X14_keepHash_L9 K g_h0 _ _ _ h_z_3 )))))))
theorem lkp_fn_X3_set {F : Nat} {sh : Nat → Nat × Nat} {n : Nat} {z : St} {h0 : Nat} {x0 : Int32} (K : Kp Q G) (h_z : Q z) (g_h0 : G h0) : LkP Q (fn_X3_set F sh n z h0 x0) := by
  unfold fn_X3_set
  exact (LkP.ite (LkP.xg (LkP.xc (lkp_fn_X3_put K h_z g_h0) (fun z_2 _ h_z_2 => (LkP.ret h_z_2)))) (LkP.ite (LkP.xg (LkP.xc (lkp_fn_X3_put K h_z g_h0) (fun z_6 _ h_z_6 => (LkP.ret h_z_6)))) (LkP.ite (LkP.xg (LkP.xc (lkp_fn_X3_put K h_z g_h0) (fun z_10 _ h_z_10 => (LkP.ret h_z_10)))) (LkP.ite (LkP.xg (LkP.xc (lkp_fn_X3_put K h_z g_h0) (fun z_14 _ h_z_14 => (LkP.ret h_z_14)))) (LkP.ite (LkP.xg (LkP.xc (lkp_fn_X3_put K h_z g_h0) (fun z_18 _ h_z_18 => (LkP.ret h_z_18)))) (LkP.ite (LkP.xg (LkP.xc (lkp_fn_X3_put K h_z g_h0) (fun z_22 _ h_z_22 => (LkP.ret h_z_22)))) (LkP.ite (LkP.xg (LkP.xc (lkp_fn_X3_put K h_z g_h0) (fun z_26 _ h_z_26 => (LkP.ret h_z_26)))) (LkP.ret h_z))))))))
theorem lkp_fn_X5_givesPlain_L2 {F : Nat} {sh : Nat → Nat × Nat} {n : Nat} {h0 : Nat} {x0 : Int32} (K : Kp Q G) (g_h0 : G h0) : ∀ (f : Nat) (v1 : St) (v2 : Int32), Q v1 → LkP Q (fn_X5_givesPlain_L2 F sh n h0 x0 f v1 v2) := by
  intro f
  induction f with
  | zero => intros; exact LkP.none
  | succ f_3 ih =>
    intro z_2 p_1 h_z_2
    exact (LkP.xg (LkP.xc (lkp_fn_X5_gives K h_z_2 g_h0) (fun z_4 r_5 h_z_4 => (LkP.ite (LkP.ret h_z_4) (LkP.xc (lkp_fn_X5_givenType K h_z_4 g_h0) (fun z_9 r_10 h_z_9 => (LkP.ite (LkP.ret h_z_9) (LkP.ite (ih _ _ h_z_9 ) (LkP.ret h_z_9)))))))))
theorem lkp_fn_X5_givesPlain {F : Nat} {sh : Nat → Nat × Nat} {n : Nat} {z : St} {h0 : Nat} {x0 : Int32} (K : Kp Q G) (h_z : Q z) (g_h0 : G h0) : LkP Q (fn_X5_givesPlain F sh n z h0 x0) := by
  unfold fn_X5_givesPlain
  exact (lkp_fn_X5_givesPlain_L2 K g_h0 _ _ _ h_z )
theorem lkp_fn_X13_takeNumbers_B36 {F : Nat} {sh : Nat → Nat × Nat} {n : Nat} {h0 : Nat} {z_8 : St} (K : Kp Q G) (h_z_8 : Q z_8) (g_h0 : G h0) : LkP Q (fn_X13_takeNumbers_B36 F sh n h0 z_8) := by
  unfold fn_X13_takeNumbers_B36
  exact (LkP.xc (lkp_fn_X13_need K h_z_8 g_h0) (fun z_9 _ h_z_9 => (LkP.xc (lkp_fn_X13_take_ K h_z_9 g_h0) (fun z_11 _ h_z_11 => (LkP.ret h_z_11)))))
theorem lkp_fn_X13_takeNumbers_B40 {F : Nat} {sh : Nat → Nat × Nat} {n : Nat} {h0 : Nat} {z_14 : St} (K : Kp Q G) (h_z_14 : Q z_14) (g_h0 : G h0) : LkP Q (fn_X13_takeNumbers_B40 F sh n h0 z_14) := by
  unfold fn_X13_takeNumbers_B40
  exact (LkP.xc (lkp_fn_X13_need K h_z_14 g_h0) (fun z_15 _ h_z_15 => (LkP.xc (lkp_fn_X13_take_ K h_z_15 g_h0) (fun z_17 _ h_z_17 => (LkP.ret h_z_17)))))
theorem lkp_fn_X13_takeNumbers {F : Nat} {sh : Nat → Nat × Nat} {n : Nat} {z : St} {h0 : Nat} {x0 : Int32} (K : Kp Q G) (h_z : Q z) (g_h0 : G h0) : LkP Q (fn_X13_takeNumbers F sh n z h0 x0) := by
  unfold fn_X13_takeNumbers
  exact (LkP.xg (LkP.xc (lkp_fn_X13_take K h_z g_h0) (fun z_1 _ h_z_1 => (LkP.ite (LkP.xc (lkp_fn_X13_isNumber K h_z_1) (fun z_5 r_6 h_z_5 => (LkP.ite (LkP.ite (lkp_fn_X13_takeNumbers_B40 K h_z_5 g_h0) (LkP.ite (lkp_fn_X13_takeNumbers_B36 K h_z_5 g_h0) (lkp_fn_X13_takeNumbers_B40 K h_z_5 g_h0))) (lkp_fn_X13_takeNumbers_B36 K h_z_5 g_h0)))) (LkP.ret h_z_1)))))
theorem lkp_fn_X16_identity {F : Nat} {sh : Nat → Nat × Nat} {n : Nat} {z : St} {h0 : Nat} {x0 : Int32} (K : Kp Q G) (h_z : Q z) (g_h0 : G h0) : LkP Q (fn_X16_identity F sh n z h0 x0) := by
  unfold fn_X16_identity
  exact (LkP.xg (LkP.xl (fun k_2 q => have g_k_2 := K.2.2.2.2.2 _ _ _ _ h_z g_h0 q; (LkP.xg (LkP.ltv (fun v_4 => (LkP.ite (LkP.xc (lkp_fn_X16_shortAt K h_z g_h0) (fun z_6 r_7 h_z_6 => (LkP.xc (lkp_fn_X16_byteAt K h_z_6 g_h0) (fun z_9 r_10 h_z_9 => (LkP.ret h_z_9))))) (LkP.xc (lkp_fn_X16_number K h_z g_h0) (fun z_12 r_13 h_z_12 => (LkP.ret h_z_12))))))))))
theorem lkp_fn_X16_reach_B39 {F : Nat} {sh : Nat → Nat × Nat} {n : Nat} {h0 : Nat} {p_5 : Int32} {p_6 : Int32} {ko11 : St → Int32 → Int32 → Option (St × Unit)} {z_16 : St} (K : Kp Q G) (h_z_16 : Q z_16) (g_h0 : G h0) (hko_ko11 : ∀ (w0 : St) (w1 : Int32) (w2 : Int32), Q w0 → LkP Q (ko11 w0 w1 w2)) : LkP Q (fn_X16_reach_B39 F sh n h0 p_5 p_6 ko11 z_16) := by
  unfold fn_X16_reach_B39
  exact (LkP.xc (lkp_fn_X16_typeEnd K h_z_16 g_h0) (fun z_17 r_18 h_z_17 => (hko_ko11 _ _ _ h_z_17 )))
theorem lkp_fn_X16_reach_L11 {F : Nat} {sh : Nat → Nat × Nat} {n : Nat} {h0 : Nat} {x0 : Int32} (K : Kp Q G) (g_h0 : G h0) : ∀ (f : Nat) (v1 : St) (v2 : Int32) (v3 : Int32), Q v1 → LkP Q (fn_X16_reach_L11 F sh n h0 x0 f v1 v2 v3) := by
  intro f
  induction f with
  | zero => intros; exact LkP.none
  | succ f_8 ih =>
    intro z_7 p_5 p_6 h_z_7
    exact (LkP.xc (lkp_fn_X16_fieldsOf K h_z_7 g_h0) (fun z_9 r_10 h_z_9 => (LkP.ite (LkP.ret h_z_9) (LkP.xc (lkp_fn_X16_ownIn K h_z_9 g_h0) (fun z_13 r_14 h_z_13 => (LkP.ite (lkp_fn_X16_reach_B39 K h_z_13 g_h0 (fun z9 q2 q3 hk_z9 => (ih _ _ _ hk_z9 ))) (LkP.xl (fun k_21 q => have g_k_21 := K.2.2.2.2.2 _ _ _ _ h_z_13 g_h0 q; (LkP.xc (lkp_fn_X16_ownIn K h_z_13 g_h0) (fun z_22 r_23 h_z_22 => (LkP.xg (LkP.lts (K.1 _ _ _ _ h_z_22 g_k_21) (fun z_27 h_z_27 => (lkp_fn_X16_reach_B39 K h_z_27 g_h0 (fun z9 q2 q3 hk_z9 => (ih _ _ _ hk_z9 ))))))))))))))))
theorem lkp_fn_X16_reach {F : Nat} {sh : Nat → Nat × Nat} {n : Nat} {z : St} {h0 : Nat} {x0 : Int32} (K : Kp Q G) (h_z : Q z) (g_h0 : G h0) : LkP Q (fn_X16_reach F sh n z h0 x0) := by
  unfold fn_X16_reach
  exact (LkP.xg (LkP.xl (fun k_2 q => have g_k_2 := K.2.2.2.2.2 _ _ _ _ h_z g_h0 q; (LkP.xg (LkP.ltv (fun v_4 => (lkp_fn_X16_reach_L11 K g_h0 _ _ _ _ h_z )))))))
theorem lkp_fn_X3_steer_B50 {F : Nat} {sh : Nat → Nat × Nat} {n : Nat} {h0 : Nat} {z_3 : St} (K : Kp Q G) (h_z_3 : Q z_3) (g_h0 : G h0) : LkP Q (fn_X3_steer_B50 F sh n h0 z_3) := by
  unfold fn_X3_steer_B50
  exact (LkP.xg (LkP.ite (LkP.ret h_z_3) (LkP.xc (lkp_fn_X3_fail K h_z_3 g_h0) (fun z_6 _ h_z_6 => (LkP.ret h_z_6)))))
theorem lkp_fn_X3_steer {F : Nat} {sh : Nat → Nat × Nat} {n : Nat} {z : St} {h0 : Nat} {x0 : Int32} (K : Kp Q G) (h_z : Q z) (g_h0 : G h0) : LkP Q (fn_X3_steer F sh n z h0 x0) := by
  unfold fn_X3_steer
  exact (LkP.ite (LkP.xg (LkP.xc (lkp_fn_X3_take K h_z g_h0) (fun z_15 r_16 h_z_15 => (LkP.xc (lkp_fn_X3_has K h_z_15 g_h0) (fun z_19 r_20 h_z_19 => (LkP.ite (LkP.xc (lkp_fn_X3_fail K h_z_19 g_h0) (fun z_23 _ h_z_23 => (LkP.ret h_z_23))) (LkP.ret h_z_19))))))) (LkP.ite (LkP.xg (LkP.xc (lkp_fn_X3_takeOnly K h_z g_h0) (fun z_12 _ h_z_12 => (LkP.ret h_z_12)))) (LkP.ite (lkp_fn_X3_steer_B50 K h_z g_h0) (LkP.xg (LkP.xc (lkp_fn_X3_takeOnly K h_z g_h0) (fun z_9 _ h_z_9 => (lkp_fn_X3_steer_B50 K h_z_9 g_h0)))))))
theorem lkp_fn_X4_shift {F : Nat} {sh : Nat → Nat × Nat} {n : Nat} {z : St} {h0 : Nat} {x0 : Int32} {x1 : Int64} {x2 : Int32} (K : Kp Q G) (h_z : Q z) (g_h0 : G h0) : LkP Q (fn_X4_shift F sh n z h0 x0 x1 x2) := by
  unfold fn_X4_shift
  exact (LkP.xc (lkp_fn_X10_bitsOf K h_z) (fun z_1 r_2 h_z_1 => (LkP.ite (LkP.ite (LkP.xg (LkP.xl (fun k_7 q => have g_k_7 := K.2.2.2.2.2 _ _ _ _ h_z_1 g_h0 q; (LkP.xg (LkP.xc (lkp_fn_X10_shiftDown K h_z_1 g_k_7) (fun z_8 _ h_z_8 => (LkP.xc (lkp_fn_X4_pushWide K h_z_8 g_h0) (fun z_11 _ h_z_11 => (LkP.ret h_z_11))))))))) (LkP.xg (LkP.xl (fun k_14 q => have g_k_14 := K.2.2.2.2.2 _ _ _ _ h_z_1 g_h0 q; (LkP.xg (LkP.xc (lkp_fn_X10_shiftUp K h_z_1 g_k_14) (fun z_15 _ h_z_15 => (LkP.xl (fun k_18 q => have g_k_18 := K.2.2.2.2.2 _ _ _ _ h_z_15 g_h0 q; (LkP.xg (LkP.xc (lkp_fn_X10_cut K h_z_15 g_k_18) (fun z_19 _ h_z_19 => (LkP.xc (lkp_fn_X4_pushWide K h_z_19 g_h0) (fun z_22 _ h_z_22 => (LkP.ret h_z_22))))))))))))))) (LkP.xg (LkP.xc (lkp_fn_X4_end K h_z_1 g_h0) (fun z_24 _ h_z_24 => (LkP.ret h_z_24)))))))
theorem lkp_fn_X18_convert {F : Nat} {sh : Nat → Nat × Nat} {n : Nat} {z : St} {h0 : Nat} {x0 : Int32} (K : Kp Q G) (h_z : Q z) (g_h0 : G h0) : LkP Q (fn_X18_convert F sh n z h0 x0) := by
  unfold fn_X18_convert
  exact (LkP.xg (LkP.xc (lkp_fn_X18_takeAny K h_z g_h0) (fun z_1 r_2 h_z_1 => (LkP.xc (lkp_fn_X18_goesOn K h_z_1 g_h0) (fun z_5 r_6 h_z_5 => (LkP.ite (LkP.ret h_z_5) (LkP.xl (fun k_9 q => have g_k_9 := K.2.2.2.2.2 _ _ _ _ h_z_5 g_h0 q; (LkP.xg (LkP.xl (fun k_11 q => have g_k_11 := K.2.2.2.2.2 _ _ _ _ h_z_5 g_k_9 q; (LkP.xg (LkP.xl (fun k_13 q => have g_k_13 := K.2.2.2.2.2 _ _ _ _ h_z_5 g_h0 q; (LkP.xg (LkP.xl (fun k_15 q => have g_k_15 := K.2.2.2.2.2 _ _ _ _ h_z_5 g_k_13 q; (LkP.xg (LkP.xc (lkp_fn_X18_bitsOf K h_z_5) (fun z_17 r_18 h_z_17 => (LkP.xc (lkp_fn_X17_isOf K h_z_17) (fun z_20 r_21 h_z_20 => (LkP.ite (LkP.xc (lkp_fn_X18_end K h_z_20 g_h0) (fun z_24 _ h_z_24 => (LkP.ret h_z_24))) (LkP.xl (fun k_26 q => have g_k_26 := K.2.2.2.2.2 _ _ _ _ h_z_20 g_h0 q; (LkP.xg (LkP.xl (fun k_28 q => have g_k_28 := K.2.2.2.2.2 _ _ _ _ h_z_20 g_k_26 q; (LkP.xg (LkP.xl (fun k_30 q => have g_k_30 := K.2.2.2.2.2 _ _ _ _ h_z_20 g_h0 q; (LkP.xg (LkP.xl (fun k_32 q => have g_k_32 := K.2.2.2.2.2 _ _ _ _ h_z_20 g_k_30 q; (LkP.xg (LkP.xc (lkp_fn_X18_make K h_z_20 g_h0) (fun z_34 _ h_z_34 => (LkP.ret h_z_34))))))))))))))))))))))))))))))))))))))
theorem lkp_fn_X3_borrowLocal_B69 {F : Nat} {sh : Nat → Nat × Nat} {n : Nat} {v_4 : Int64} {h0 : Nat} {x1 : Int32} {z_20 : St} {p_19 : Int32} (K : Kp Q G) (h_z_20 : Q z_20) (g_h0 : G h0) : LkP Q (fn_X3_borrowLocal_B69 F sh n v_4 h0 x1 z_20 p_19) := by
  unfold fn_X3_borrowLocal_B69
  exact (LkP.xc (lkp_fn_X5_prefixed K h_z_20) (fun z_21 r_22 h_z_21 => (LkP.xc (lkp_fn_X3_putReference K h_z_21 g_h0) (fun z_24 _ h_z_24 => (LkP.ret h_z_24)))))
theorem lkp_fn_X3_borrowLocal_B57 {F : Nat} {sh : Nat → Nat × Nat} {n : Nat} {x0 : Int32} {v_4 : Int64} {h0 : Nat} {x1 : Int32} {z_18 : St} (K : Kp Q G) (h_z_18 : Q z_18) (g_h0 : G h0) : LkP Q (fn_X3_borrowLocal_B57 F sh n x0 v_4 h0 x1 z_18) := by
  unfold fn_X3_borrowLocal_B57
  exact (LkP.ite (lkp_fn_X3_borrowLocal_B69 K h_z_18 g_h0) (lkp_fn_X3_borrowLocal_B69 K h_z_18 g_h0))
theorem lkp_fn_X3_borrowLocal_B45 {F : Nat} {sh : Nat → Nat × Nat} {n : Nat} {h0 : Nat} {x1 : Int32} {x0 : Int32} {v_4 : Int64} {z_14 : St} {p_13 : Int32} (K : Kp Q G) (h_z_14 : Q z_14) (g_h0 : G h0) : LkP Q (fn_X3_borrowLocal_B45 F sh n h0 x1 x0 v_4 z_14 p_13) := by
  unfold fn_X3_borrowLocal_B45
  exact (LkP.xc (lkp_fn_X3_isLive K h_z_14 g_h0) (fun z_15 r_16 h_z_15 => (LkP.ite (lkp_fn_X3_borrowLocal_B57 K h_z_15 g_h0) (LkP.xc (lkp_fn_X3_fail K h_z_15 g_h0) (fun z_28 _ h_z_28 => (lkp_fn_X3_borrowLocal_B57 K h_z_28 g_h0))))))
theorem lkp_fn_X3_borrowLocal_B32 {F : Nat} {sh : Nat → Nat × Nat} {n : Nat} {x0 : Int32} {h0 : Nat} {x1 : Int32} {v_4 : Int64} {z_12 : St} (K : Kp Q G) (h_z_12 : Q z_12) (g_h0 : G h0) : LkP Q (fn_X3_borrowLocal_B32 F sh n x0 h0 x1 v_4 z_12) := by
  unfold fn_X3_borrowLocal_B32
  exact (LkP.ite (lkp_fn_X3_borrowLocal_B45 K h_z_12 g_h0) (lkp_fn_X3_borrowLocal_B45 K h_z_12 g_h0))
theorem lkp_fn_X3_borrowLocal_B20 {F : Nat} {sh : Nat → Nat × Nat} {n : Nat} {v_4 : Int64} {x0 : Int32} {h0 : Nat} {x1 : Int32} {z_8 : St} (K : Kp Q G) (h_z_8 : Q z_8) (g_h0 : G h0) : LkP Q (fn_X3_borrowLocal_B20 F sh n v_4 x0 h0 x1 z_8) := by
  unfold fn_X3_borrowLocal_B20
  exact (LkP.xc (lkp_fn_X5_isReference K h_z_8) (fun z_9 r_10 h_z_9 => (LkP.ite (lkp_fn_X3_borrowLocal_B32 K h_z_9 g_h0) (LkP.xc (lkp_fn_X3_fail K h_z_9 g_h0) (fun z_32 _ h_z_32 => (lkp_fn_X3_borrowLocal_B32 K h_z_32 g_h0))))))
theorem lkp_fn_X3_borrowLocal {F : Nat} {sh : Nat → Nat × Nat} {n : Nat} {z : St} {h0 : Nat} {x0 : Int32} {x1 : Int32} (K : Kp Q G) (h_z : Q z) (g_h0 : G h0) : LkP Q (fn_X3_borrowLocal F sh n z h0 x0 x1) := by
  unfold fn_X3_borrowLocal
  exact (LkP.xg (LkP.xl (fun k_2 q => have g_k_2 := K.2.2.2.2.2 _ _ _ _ h_z g_h0 q; (LkP.xg (LkP.ltv (fun v_4 => (LkP.xc (lkp_fn_X3_isThere K h_z g_h0) (fun z_5 r_6 h_z_5 => (LkP.ite (LkP.xc (lkp_fn_X3_fail K h_z_5 g_h0) (fun z_35 _ h_z_35 => (lkp_fn_X3_borrowLocal_B20 K h_z_35 g_h0))) (lkp_fn_X3_borrowLocal_B20 K h_z_5 g_h0))))))))))
theorem lkp_fn_X3_pack_L63 {F : Nat} {sh : Nat → Nat × Nat} {n : Nat} {r_4 : Int32} {h0 : Nat} {x1 : Int32} (K : Kp Q G) (g_h0 : G h0) : ∀ (f : Nat) (v1 : St) (v2 : Int32), Q v1 → LkP Q (fn_X3_pack_L63 F sh n r_4 h0 x1 f v1 v2) := by
  intro f
  induction f with
  | zero => intros; exact LkP.none
  | succ f_15 ih =>
    intro z_14 p_13 h_z_14
    exact (LkP.ite (LkP.ret h_z_14) (LkP.xl (fun k_17 q => have g_k_17 := K.2.2.2.2.2 _ _ _ _ h_z_14 g_h0 q; (LkP.xg (LkP.xc (lkp_fn_X5_fieldType K h_z_14 g_k_17) (fun z_18 r_19 h_z_18 => (LkP.xc (lkp_fn_X3_put K h_z_18 g_h0) (fun z_22 _ h_z_22 => (ih _ _ h_z_22 )))))))))
theorem lkp_fn_X3_pack_L18 {F : Nat} {sh : Nat → Nat × Nat} {n : Nat} {x1 : Int32} {h0 : Nat} (K : Kp Q G) (g_h0 : G h0) : ∀ (f : Nat) (v1 : St) (v2 : Int32), Q v1 → LkP Q (fn_X3_pack_L18 F sh n x1 h0 f v1 v2) := by
  intro f
  induction f with
  | zero => intros; exact LkP.none
  | succ f_27 ih =>
    intro z_26 p_25 h_z_26
    exact (LkP.ite (LkP.xc (lkp_fn_X5_structureType K h_z_26) (fun z_29 r_30 h_z_29 => (LkP.xc (lkp_fn_X3_put K h_z_29 g_h0) (fun z_32 _ h_z_32 => (LkP.ret h_z_32))))) (LkP.xl (fun k_34 q => have g_k_34 := K.2.2.2.2.2 _ _ _ _ h_z_26 g_h0 q; (LkP.xg (LkP.xc (lkp_fn_X5_fieldType K h_z_26 g_k_34) (fun z_35 r_36 h_z_35 => (LkP.xc (lkp_fn_X3_takeOnly K h_z_35 g_h0) (fun z_39 _ h_z_39 => (ih _ _ h_z_39 )))))))))
theorem lkp_fn_X3_pack {F : Nat} {sh : Nat → Nat × Nat} {n : Nat} {z : St} {h0 : Nat} {x0 : Int32} {x1 : Int32} (K : Kp Q G) (h_z : Q z) (g_h0 : G h0) : LkP Q (fn_X3_pack F sh n z h0 x0 x1) := by
  unfold fn_X3_pack
  exact (LkP.xg (LkP.xl (fun k_2 q => have g_k_2 := K.2.2.2.2.2 _ _ _ _ h_z g_h0 q; (LkP.xg (LkP.xc (lkp_fn_X5_fieldCount K h_z g_k_2) (fun z_3 r_4 h_z_3 => (LkP.ite (LkP.xc (lkp_fn_X5_structureType K h_z_3) (fun z_8 r_9 h_z_8 => (LkP.xc (lkp_fn_X3_takeOnly K h_z_8 g_h0) (fun z_11 _ h_z_11 => (lkp_fn_X3_pack_L63 K g_h0 _ _ _ h_z_11 ))))) (LkP.ltv (fun v_24 => (lkp_fn_X3_pack_L18 K g_h0 _ _ _ h_z_3 ))))))))))
theorem lkp_fn_X3_leave_B37 {F : Nat} {sh : Nat → Nat × Nat} {n : Nat} {h0 : Nat} {z_3 : St} {p_2 : Int32} (K : Kp Q G) (h_z_3 : Q z_3) (g_h0 : G h0) : LkP Q (fn_X3_leave_B37 F sh n h0 z_3 p_2) := by
  unfold fn_X3_leave_B37
  exact (LkP.xg (LkP.xg (LkP.lts (K.1 _ _ _ _ h_z_3 g_h0) (fun z_7 h_z_7 => (LkP.ite (LkP.lts (K.1 _ _ _ _ h_z_7 g_h0) (fun z_20 h_z_20 => (LkP.ret h_z_20))) (LkP.xl (fun k_9 q => have g_k_9 := K.2.2.2.2.2 _ _ _ _ h_z_7 g_h0 q; (LkP.xg (LkP.xc (lkp_fn_X5_instructions K h_z_7 g_k_9) (fun z_10 r_11 h_z_10 => (LkP.ite (LkP.xc (lkp_fn_X3_come K h_z_10 g_h0) (fun z_15 _ h_z_15 => (LkP.ret h_z_15))) (LkP.xc (lkp_fn_X3_fail K h_z_10 g_h0) (fun z_17 _ h_z_17 => (LkP.ret h_z_17))))))))))))))
theorem lkp_fn_X3_leave_B36 {F : Nat} {sh : Nat → Nat × Nat} {n : Nat} {h0 : Nat} {z_21 : St} (K : Kp Q G) (h_z_21 : Q z_21) (g_h0 : G h0) : LkP Q (fn_X3_leave_B36 F sh n h0 z_21) := by
  unfold fn_X3_leave_B36
  exact (lkp_fn_X3_leave_B37 K h_z_21 g_h0)
theorem lkp_fn_X3_leave_B15 {F : Nat} {sh : Nat → Nat × Nat} {n : Nat} {x0 : Int32} {h0 : Nat} {z_1 : St} (K : Kp Q G) (h_z_1 : Q z_1) (g_h0 : G h0) : LkP Q (fn_X3_leave_B15 F sh n x0 h0 z_1) := by
  unfold fn_X3_leave_B15
  exact (LkP.ite (lkp_fn_X3_leave_B36 K h_z_1 g_h0) (LkP.ite (lkp_fn_X3_leave_B36 K h_z_1 g_h0) (LkP.ite (lkp_fn_X3_leave_B36 K h_z_1 g_h0) (lkp_fn_X3_leave_B37 K h_z_1 g_h0))))
theorem lkp_fn_X3_leave {F : Nat} {sh : Nat → Nat × Nat} {n : Nat} {z : St} {h0 : Nat} {x0 : Int32} {x1 : Int32} (K : Kp Q G) (h_z : Q z) (g_h0 : G h0) : LkP Q (fn_X3_leave F sh n z h0 x0 x1) := by
  unfold fn_X3_leave
  exact (LkP.ite (lkp_fn_X3_leave_B15 K h_z g_h0) (LkP.ite (lkp_fn_X3_leave_B15 K h_z g_h0) (LkP.xg (LkP.xc (lkp_fn_X3_come K h_z g_h0) (fun z_27 _ h_z_27 => (lkp_fn_X3_leave_B15 K h_z_27 g_h0))))))
theorem lkp_fn_X18_constant {F : Nat} {sh : Nat → Nat × Nat} {n : Nat} {z : St} {h0 : Nat} {x0 : Int32} {x1 : Int64} {x2 : Int64} (K : Kp Q G) (h_z : Q z) (g_h0 : G h0) : LkP Q (fn_X18_constant F sh n z h0 x0 x1 x2) := by
  unfold fn_X18_constant
  exact (LkP.ite (LkP.xg (LkP.xc (lkp_fn_X18_make K h_z g_h0) (fun z_25 _ h_z_25 => (LkP.ret h_z_25)))) (LkP.ite (LkP.xg (LkP.xc (lkp_fn_X18_make K h_z g_h0) (fun z_22 _ h_z_22 => (LkP.ret h_z_22)))) (LkP.ite (LkP.xg (LkP.xc (lkp_fn_X18_make K h_z g_h0) (fun z_19 _ h_z_19 => (LkP.ret h_z_19)))) (LkP.ite (LkP.ite (LkP.xg (LkP.xc (lkp_fn_X18_make K h_z g_h0) (fun z_9 _ h_z_9 => (LkP.ret h_z_9)))) (LkP.xg (LkP.xc (lkp_fn_X18_make K h_z g_h0) (fun z_7 _ h_z_7 => (LkP.ret h_z_7))))) (LkP.ite (LkP.xg (LkP.xc (lkp_fn_X18_make K h_z g_h0) (fun z_16 _ h_z_16 => (LkP.ret h_z_16)))) (LkP.xg (LkP.xc (lkp_fn_X18_make K h_z g_h0) (fun z_13 _ h_z_13 => (LkP.ret h_z_13)))))))))
theorem lkp_fn_X16_overInstruction {F : Nat} {sh : Nat → Nat × Nat} {n : Nat} {z : St} {h0 : Nat} (K : Kp Q G) (h_z : Q z) (g_h0 : G h0) : LkP Q (fn_X16_overInstruction F sh n z h0) := by
  unfold fn_X16_overInstruction
  exact (LkP.xg (LkP.xc (lkp_fn_X16_over K h_z g_h0) (fun z_1 r_2 h_z_1 => (LkP.xc (lkp_fn_X16_isGood K h_z_1 g_h0) (fun z_5 r_6 h_z_5 => (LkP.ite (LkP.ret h_z_5) (LkP.xl (fun k_9 q => have g_k_9 := K.2.2.2.2.2 _ _ _ _ h_z_5 g_h0 q; (LkP.xg (LkP.lts (K.1 _ _ _ _ h_z_5 g_k_9) (fun z_12 h_z_12 => (LkP.lts (K.1 _ _ _ _ h_z_12 g_h0) (fun z_14 h_z_14 => (LkP.xc (lkp_fn_X16_byteAt K h_z_14 g_h0) (fun z_15 r_16 h_z_15 => (LkP.ite (LkP.xc (lkp_fn_X16_byteAt K h_z_15 g_h0) (fun z_19 r_20 h_z_19 => (LkP.ite (LkP.xc (lkp_fn_X16_over K h_z_19 g_h0) (fun z_32 r_33 h_z_32 => (LkP.xc (lkp_fn_X16_isGood K h_z_32 g_h0) (fun z_35 r_36 h_z_35 => (LkP.ite (LkP.ret h_z_35) (LkP.xc (lkp_fn_X16_count K h_z_35 g_h0) (fun z_39 r_40 h_z_39 => (LkP.ret h_z_39)))))))) (LkP.xc (lkp_fn_X16_byteAt K h_z_19 g_h0) (fun z_23 r_24 h_z_23 => (LkP.xc (lkp_fn_X16_operandBytes K h_z_23) (fun z_26 r_27 h_z_26 => (LkP.xc (lkp_fn_X16_over K h_z_26 g_h0) (fun z_29 r_30 h_z_29 => (LkP.ret h_z_29)))))))))) (LkP.xc (lkp_fn_X16_fail K h_z_15 g_h0) (fun z_42 _ h_z_42 => (LkP.ret h_z_42)))))))))))))))))))
theorem lkp_fn_X5_strangeFunction_L2 {F : Nat} {sh : Nat → Nat × Nat} {n : Nat} {h0 : Nat} {x0 : Nat} (K : Kp Q G) (g_h0 : G h0) (g_x0 : G x0) : ∀ (f : Nat) (v1 : St) (v2 : Int32), Q v1 → LkP Q (fn_X5_strangeFunction_L2 F sh n h0 x0 f v1 v2) := by
  intro f
  induction f with
  | zero => intros; exact LkP.none
  | succ f_3 ih =>
    intro z_2 p_1 h_z_2
    exact (LkP.xg (LkP.ite (LkP.ret h_z_2) (LkP.ltv (fun v_6 => (LkP.xc (lkp_fn_X5_functionColumn K h_z_2 g_h0) (fun z_7 r_8 h_z_7 => (LkP.xg (LkP.calo (lkp_fn_X7_findProgram K h_z_7 g_x0) (fun z_10 r_11 h_z_10 o_r_11 => (LkP.xn (LkP.xc (lkp_fn_X5_functionColumn K h_z_10 g_h0) (fun z_15 r_16 h_z_15 => (LkP.ret h_z_15))) (fun k_14 q => have g_k_14 := o_r_11 _ q; (LkP.xc (lkp_fn_X5_functionColumn K h_z_10 g_h0) (fun z_18 r_19 h_z_18 => (LkP.xg (LkP.ite (LkP.ret h_z_18) (LkP.xc (lkp_fn_X5_flags K h_z_18 g_k_14) (fun z_23 r_24 h_z_23 => (LkP.ite (LkP.ret h_z_23) (LkP.xc (lkp_fn_X5_flags K h_z_23 g_k_14) (fun z_27 r_28 h_z_27 => (LkP.xc (lkp_fn_X5_flags K h_z_27 g_h0) (fun z_30 r_31 h_z_30 => (LkP.ite (LkP.xc (lkp_fn_X5_sameLists K h_z_30 g_h0 g_k_14) (fun z_34 r_35 h_z_34 => (LkP.ite (LkP.ret h_z_34) (ih _ _ h_z_34 )))) (LkP.ret h_z_30))))))))))))))))))))))))
theorem lkp_fn_X5_strangeFunction {F : Nat} {sh : Nat → Nat × Nat} {n : Nat} {z : St} {h0 : Nat} {x0 : Nat} (K : Kp Q G) (h_z : Q z) (g_h0 : G h0) (g_x0 : G x0) : LkP Q (fn_X5_strangeFunction F sh n z h0 x0) := by
  unfold fn_X5_strangeFunction
  exact (lkp_fn_X5_strangeFunction_L2 K g_h0 g_x0 _ _ _ h_z )
theorem lkp_fn_X2_fits_B86 {F : Nat} {sh : Nat → Nat × Nat} {n : Nat} {p_7 : Int32} {p_18 : Int32} {p_8 : Int32} {ko10 : St → Int32 → Int32 → Option (St × Int32)} {z_23 : St} {p_22 : Int32} (K : Kp Q G) (h_z_23 : Q z_23) (hko_ko10 : ∀ (w0 : St) (w1 : Int32) (w2 : Int32), Q w0 → LkP Q (ko10 w0 w1 w2)) : LkP Q (fn_X2_fits_B86 F sh n p_7 p_18 p_8 ko10 z_23 p_22) := by
  unfold fn_X2_fits_B86
  exact (LkP.ltv (fun v_24 => (hko_ko10 _ _ _ h_z_23 )))
theorem lkp_fn_X2_fits_B72 {F : Nat} {sh : Nat → Nat × Nat} {n : Nat} {h0 : Nat} {p_8 : Int32} {p_7 : Int32} {ko10 : St → Int32 → Int32 → Option (St × Int32)} {z_19 : St} {p_18 : Int32} (K : Kp Q G) (h_z_19 : Q z_19) (g_h0 : G h0) (hko_ko10 : ∀ (w0 : St) (w1 : Int32) (w2 : Int32), Q w0 → LkP Q (ko10 w0 w1 w2)) : LkP Q (fn_X2_fits_B72 F sh n h0 p_8 p_7 ko10 z_19 p_18) := by
  unfold fn_X2_fits_B72
  exact (LkP.xl (fun k_20 q => have g_k_20 := K.2.2.2.2.2 _ _ _ _ h_z_19 g_h0 q; (LkP.xg (LkP.ite (lkp_fn_X2_fits_B86 K h_z_19 (fun z9 q1 q2 hk_z9 => (hko_ko10 _ _ _ hk_z9 ))) (lkp_fn_X2_fits_B86 K h_z_19 (fun z9 q1 q2 hk_z9 => (hko_ko10 _ _ _ hk_z9 )))))))
theorem lkp_fn_X2_fits_B57 {F : Nat} {sh : Nat → Nat × Nat} {n : Nat} {h0 : Nat} {p_8 : Int32} {p_7 : Int32} {ko10 : St → Int32 → Int32 → Option (St × Int32)} {z_15 : St} (K : Kp Q G) (h_z_15 : Q z_15) (g_h0 : G h0) (hko_ko10 : ∀ (w0 : St) (w1 : Int32) (w2 : Int32), Q w0 → LkP Q (ko10 w0 w1 w2)) : LkP Q (fn_X2_fits_B57 F sh n h0 p_8 p_7 ko10 z_15) := by
  unfold fn_X2_fits_B57
  exact (LkP.xl (fun k_16 q => have g_k_16 := K.2.2.2.2.2 _ _ _ _ h_z_15 g_h0 q; (LkP.xg (LkP.ite (lkp_fn_X2_fits_B72 K h_z_15 g_h0 (fun z9 q1 q2 hk_z9 => (hko_ko10 _ _ _ hk_z9 ))) (lkp_fn_X2_fits_B72 K h_z_15 g_h0 (fun z9 q1 q2 hk_z9 => (hko_ko10 _ _ _ hk_z9 )))))))
theorem lkp_fn_X2_fits_L10 {F : Nat} {sh : Nat → Nat × Nat} {n : Nat} {h0 : Nat} (K : Kp Q G) (g_h0 : G h0) : ∀ (f : Nat) (v1 : St) (v2 : Int32) (v3 : Int32), Q v1 → LkP Q (fn_X2_fits_L10 F sh n h0 f v1 v2 v3) := by
  intro f
  induction f with
  | zero => intros; exact LkP.none
  | succ f_10 ih =>
    intro z_9 p_7 p_8 h_z_9
    exact (LkP.ite (LkP.ite (LkP.ret h_z_9) (LkP.ret h_z_9)) (LkP.xl (fun k_13 q => have g_k_13 := K.2.2.2.2.2 _ _ _ _ h_z_9 g_h0 q; (LkP.xg (LkP.ite (LkP.xl (fun k_28 q => have g_k_28 := K.2.2.2.2.2 _ _ _ _ h_z_9 g_h0 q; (LkP.xg (LkP.ite (lkp_fn_X2_fits_B57 K h_z_9 g_h0 (fun z9 q1 q2 hk_z9 => (ih _ _ _ hk_z9 ))) (LkP.xl (fun k_31 q => have g_k_31 := K.2.2.2.2.2 _ _ _ _ h_z_9 g_h0 q; (LkP.xl (fun k_32 q => have g_k_32 := K.2.2.2.2.2 _ _ _ _ h_z_9 g_h0 q; (LkP.xg (LkP.xg (LkP.xc (lkp_fn_X1_sizeOf K h_z_9 g_k_31) (fun z_34 r_35 h_z_34 => (LkP.ite (lkp_fn_X2_fits_B57 K h_z_34 g_h0 (fun z9 q1 q2 hk_z9 => (ih _ _ _ hk_z9 ))) (LkP.ret h_z_34)))))))))))))) (lkp_fn_X2_fits_B57 K h_z_9 g_h0 (fun z9 q1 q2 hk_z9 => (ih _ _ _ hk_z9 ))))))))
theorem lkp_fn_X2_fits {F : Nat} {sh : Nat → Nat × Nat} {n : Nat} {z : St} {h0 : Nat} (K : Kp Q G) (h_z : Q z) (g_h0 : G h0) : LkP Q (fn_X2_fits F sh n z h0) := by
  unfold fn_X2_fits
  exact (LkP.xg (LkP.xl (fun k_2 q => have g_k_2 := K.2.2.2.2.2 _ _ _ _ h_z g_h0 q; (LkP.xg (LkP.xc (lkp_fn_X7_placeCount K h_z g_k_2) (fun z_3 r_4 h_z_3 => (lkp_fn_X2_fits_L10 K g_h0 _ _ _ _ h_z_3 )))))))
theorem lkp_fn_X17_reckon_B107 {F : Nat} {sh : Nat → Nat × Nat} {n : Nat} {h0 : Nat} {x5 : Int32} {z_15 : St} {p_14 : Int32} (K : Kp Q G) (h_z_15 : Q z_15) (g_h0 : G h0) : LkP Q (fn_X17_reckon_B107 F sh n h0 x5 z_15 p_14) := by
  unfold fn_X17_reckon_B107
  exact (LkP.xc (lkp_fn_X17_divide K h_z_15 g_h0) (fun z_16 r_17 h_z_16 => (LkP.ite (LkP.ret h_z_16) (LkP.ret h_z_16))))
theorem lkp_fn_X17_reckon {F : Nat} {sh : Nat → Nat × Nat} {n : Nat} {z : St} {h0 : Nat} {x0 : Int32} {x1 : Int64} {x2 : Int64} {x3 : Int64} {x4 : Int64} {x5 : Int32} (K : Kp Q G) (h_z : Q z) (g_h0 : G h0) : LkP Q (fn_X17_reckon F sh n z h0 x0 x1 x2 x3 x4 x5) := by
  unfold fn_X17_reckon
  exact (LkP.xg (LkP.xl (fun k_2 q => have g_k_2 := K.2.2.2.2.2 _ _ _ _ h_z g_h0 q; (LkP.xc (lkp_fn_X17_lay K h_z g_k_2) (fun z_3 _ h_z_3 => (LkP.xl (fun k_5 q => have g_k_5 := K.2.2.2.2.2 _ _ _ _ h_z_3 g_h0 q; (LkP.xc (lkp_fn_X17_lay K h_z_3 g_k_5) (fun z_6 _ h_z_6 => (LkP.xc (lkp_fn_X17_clear K h_z_6 g_h0) (fun z_8 _ h_z_8 => (LkP.ite (LkP.xc (lkp_fn_X17_add K h_z_8 g_h0) (fun z_33 r_34 h_z_33 => (LkP.xg (LkP.ret h_z_33)))) (LkP.ite (LkP.xc (lkp_fn_X17_compare K h_z_8) (fun z_25 r_26 h_z_25 => (LkP.ite (LkP.ret h_z_25) (LkP.xc (lkp_fn_X17_subtract K h_z_25 g_h0) (fun z_29 r_30 h_z_29 => (LkP.ite (LkP.ret h_z_29) (LkP.ret h_z_29))))))) (LkP.ite (LkP.xc (lkp_fn_X17_multiply K h_z_8 g_h0) (fun z_21 r_22 h_z_21 => (LkP.xg (LkP.ret h_z_21)))) (LkP.ite (LkP.ret h_z_8) (LkP.ite (lkp_fn_X17_reckon_B107 K h_z_8 g_h0) (lkp_fn_X17_reckon_B107 K h_z_8 g_h0)))))))))))))))))
theorem lkp_fn_X4_combine {F : Nat} {sh : Nat → Nat × Nat} {n : Nat} {z : St} {h0 : Nat} {x0 : Int32} {x1 : Int64} {x2 : Int64} (K : Kp Q G) (h_z : Q z) (g_h0 : G h0) : LkP Q (fn_X4_combine F sh n z h0 x0 x1 x2) := by
  unfold fn_X4_combine
  exact (LkP.ite (LkP.xg (LkP.xl (fun k_3 q => have g_k_3 := K.2.2.2.2.2 _ _ _ _ h_z g_h0 q; (LkP.xg (LkP.xc (lkp_fn_X10_add K h_z g_k_3) (fun z_4 _ h_z_4 => (LkP.ret h_z_4))))))) (LkP.ite (LkP.xg (LkP.xl (fun k_9 q => have g_k_9 := K.2.2.2.2.2 _ _ _ _ h_z g_h0 q; (LkP.xg (LkP.xc (lkp_fn_X10_subtract K h_z g_k_9) (fun z_10 _ h_z_10 => (LkP.ret h_z_10))))))) (LkP.ite (LkP.xg (LkP.xl (fun k_15 q => have g_k_15 := K.2.2.2.2.2 _ _ _ _ h_z g_h0 q; (LkP.xg (LkP.xc (lkp_fn_X10_multiply K h_z g_k_15) (fun z_16 _ h_z_16 => (LkP.ret h_z_16))))))) (LkP.ite (LkP.xg (LkP.xl (fun k_21 q => have g_k_21 := K.2.2.2.2.2 _ _ _ _ h_z g_h0 q; (LkP.ite (LkP.xg (LkP.xc (lkp_fn_X10_divide K h_z g_k_21) (fun z_26 _ h_z_26 => (LkP.ret h_z_26)))) (LkP.xg (LkP.xc (lkp_fn_X10_divide K h_z g_k_21) (fun z_23 _ h_z_23 => (LkP.ret h_z_23)))))))) (LkP.ite (LkP.xg (LkP.xl (fun k_31 q => have g_k_31 := K.2.2.2.2.2 _ _ _ _ h_z g_h0 q; (LkP.ite (LkP.xg (LkP.xc (lkp_fn_X10_divide K h_z g_k_31) (fun z_36 _ h_z_36 => (LkP.ret h_z_36)))) (LkP.xg (LkP.xc (lkp_fn_X10_divide K h_z g_k_31) (fun z_33 _ h_z_33 => (LkP.ret h_z_33)))))))) (LkP.ite (LkP.xg (LkP.xl (fun k_41 q => have g_k_41 := K.2.2.2.2.2 _ _ _ _ h_z g_h0 q; (LkP.xl (fun k_42 q => have g_k_42 := K.2.2.2.2.2 _ _ _ _ h_z g_h0 q; (LkP.xg (LkP.xl (fun k_44 q => have g_k_44 := K.2.2.2.2.2 _ _ _ _ h_z g_h0 q; (LkP.xg (LkP.xg (LkP.xc (lkp_fn_X10_set K h_z g_k_41) (fun z_46 _ h_z_46 => (LkP.ret h_z_46))))))))))))) (LkP.ite (LkP.xg (LkP.xl (fun k_51 q => have g_k_51 := K.2.2.2.2.2 _ _ _ _ h_z g_h0 q; (LkP.xl (fun k_52 q => have g_k_52 := K.2.2.2.2.2 _ _ _ _ h_z g_h0 q; (LkP.xg (LkP.xl (fun k_54 q => have g_k_54 := K.2.2.2.2.2 _ _ _ _ h_z g_h0 q; (LkP.xg (LkP.xg (LkP.xc (lkp_fn_X10_set K h_z g_k_51) (fun z_56 _ h_z_56 => (LkP.ret h_z_56))))))))))))) (LkP.xg (LkP.xl (fun k_60 q => have g_k_60 := K.2.2.2.2.2 _ _ _ _ h_z g_h0 q; (LkP.xl (fun k_61 q => have g_k_61 := K.2.2.2.2.2 _ _ _ _ h_z g_h0 q; (LkP.xg (LkP.xl (fun k_63 q => have g_k_63 := K.2.2.2.2.2 _ _ _ _ h_z g_h0 q; (LkP.xg (LkP.xg (LkP.xc (lkp_fn_X10_set K h_z g_k_60) (fun z_65 _ h_z_65 => (LkP.ret h_z_65))))))))))))))))))))
theorem lkp_fn_X3_giveBack_B119 {F : Nat} {sh : Nat → Nat × Nat} {n : Nat} {h0 : Nat} {z_18 : St} (K : Kp Q G) (h_z_18 : Q z_18) (g_h0 : G h0) : LkP Q (fn_X3_giveBack_B119 F sh n h0 z_18) := by
  unfold fn_X3_giveBack_B119
  exact (LkP.ite (LkP.ret h_z_18) (LkP.xc (lkp_fn_X3_fail K h_z_18 g_h0) (fun z_20 _ h_z_20 => (LkP.ret h_z_20))))
theorem lkp_fn_X3_giveBack_B109 {F : Nat} {sh : Nat → Nat × Nat} {n : Nat} {p_15 : Int32} {h0 : Nat} {z_17 : St} (K : Kp Q G) (h_z_17 : Q z_17) (g_h0 : G h0) : LkP Q (fn_X3_giveBack_B109 F sh n p_15 h0 z_17) := by
  unfold fn_X3_giveBack_B109
  exact (LkP.ite (LkP.xc (lkp_fn_X3_fail K h_z_17 g_h0) (fun z_23 _ h_z_23 => (lkp_fn_X3_giveBack_B119 K h_z_23 g_h0))) (lkp_fn_X3_giveBack_B119 K h_z_17 g_h0))
theorem lkp_fn_X3_giveBack_B99 {F : Nat} {sh : Nat → Nat × Nat} {n : Nat} {h0 : Nat} {z_16 : St} {p_14 : Int32} {p_15 : Int32} (K : Kp Q G) (h_z_16 : Q z_16) (g_h0 : G h0) : LkP Q (fn_X3_giveBack_B99 F sh n h0 z_16 p_14 p_15) := by
  unfold fn_X3_giveBack_B99
  exact (LkP.ite (LkP.xc (lkp_fn_X3_fail K h_z_16 g_h0) (fun z_26 _ h_z_26 => (lkp_fn_X3_giveBack_B109 K h_z_26 g_h0))) (lkp_fn_X3_giveBack_B109 K h_z_16 g_h0))
theorem lkp_fn_X3_giveBack_B92 {F : Nat} {sh : Nat → Nat × Nat} {n : Nat} {p_37 : Int32} {p_11 : Int32} {ko28 : St → Int32 → Int32 → Int32 → Option (St × Unit)} {z_40 : St} {p_39 : Int32} (K : Kp Q G) (h_z_40 : Q z_40) (hko_ko28 : ∀ (w0 : St) (w1 : Int32) (w2 : Int32) (w3 : Int32), Q w0 → LkP Q (ko28 w0 w1 w2 w3)) : LkP Q (fn_X3_giveBack_B92 F sh n p_37 p_11 ko28 z_40 p_39) := by
  unfold fn_X3_giveBack_B92
  exact (hko_ko28 _ _ _ _ h_z_40 )
theorem lkp_fn_X3_giveBack_B91 {F : Nat} {sh : Nat → Nat × Nat} {n : Nat} {p_37 : Int32} {p_11 : Int32} {ko28 : St → Int32 → Int32 → Int32 → Option (St × Unit)} {z_41 : St} (K : Kp Q G) (h_z_41 : Q z_41) (hko_ko28 : ∀ (w0 : St) (w1 : Int32) (w2 : Int32) (w3 : Int32), Q w0 → LkP Q (ko28 w0 w1 w2 w3)) : LkP Q (fn_X3_giveBack_B91 F sh n p_37 p_11 ko28 z_41) := by
  unfold fn_X3_giveBack_B91
  exact (lkp_fn_X3_giveBack_B92 K h_z_41 (fun z9 q1 q2 q3 hk_z9 => (hko_ko28 _ _ _ _ hk_z9 )))
theorem lkp_fn_X3_giveBack_B67 {F : Nat} {sh : Nat → Nat × Nat} {n : Nat} {p_10 : Int32} {p_11 : Int32} {h0 : Nat} {ko28 : St → Int32 → Int32 → Int32 → Option (St × Unit)} {z_38 : St} {p_37 : Int32} (K : Kp Q G) (h_z_38 : Q z_38) (g_h0 : G h0) (hko_ko28 : ∀ (w0 : St) (w1 : Int32) (w2 : Int32) (w3 : Int32), Q w0 → LkP Q (ko28 w0 w1 w2 w3)) : LkP Q (fn_X3_giveBack_B67 F sh n p_10 p_11 h0 ko28 z_38 p_37) := by
  unfold fn_X3_giveBack_B67
  exact (LkP.ite (lkp_fn_X3_giveBack_B91 K h_z_38 (fun z9 q1 q2 q3 hk_z9 => (hko_ko28 _ _ _ _ hk_z9 ))) (LkP.xl (fun k_43 q => have g_k_43 := K.2.2.2.2.2 _ _ _ _ h_z_38 g_h0 q; (LkP.xg (LkP.ite (lkp_fn_X3_giveBack_B92 K h_z_38 (fun z9 q1 q2 q3 hk_z9 => (hko_ko28 _ _ _ _ hk_z9 ))) (lkp_fn_X3_giveBack_B91 K h_z_38 (fun z9 q1 q2 q3 hk_z9 => (hko_ko28 _ _ _ _ hk_z9 ))))))))
theorem lkp_fn_X3_giveBack_L28 {F : Nat} {sh : Nat → Nat × Nat} {n : Nat} {h0 : Nat} (K : Kp Q G) (g_h0 : G h0) : ∀ (f : Nat) (v1 : St) (v2 : Int32) (v3 : Int32) (v4 : Int32), Q v1 → LkP Q (fn_X3_giveBack_L28 F sh n h0 f v1 v2 v3 v4) := by
  intro f
  induction f with
  | zero => intros; exact LkP.none
  | succ f_13 ih =>
    intro z_12 p_9 p_10 p_11 h_z_12
    exact (LkP.ite (lkp_fn_X3_giveBack_B99 K h_z_12 g_h0) (LkP.ite (lkp_fn_X3_giveBack_B99 K h_z_12 g_h0) (LkP.xl (fun k_30 q => have g_k_30 := K.2.2.2.2.2 _ _ _ _ h_z_12 g_h0 q; (LkP.xg (LkP.xl (fun k_32 q => have g_k_32 := K.2.2.2.2.2 _ _ _ _ h_z_12 g_h0 q; (LkP.xg (LkP.xc (lkp_fn_X5_givenType K h_z_12 g_k_32) (fun z_33 r_34 h_z_33 => (LkP.ite (lkp_fn_X3_giveBack_B67 K h_z_33 g_h0 (fun z9 q1 q2 q3 hk_z9 => (ih _ _ _ _ hk_z9 ))) (lkp_fn_X3_giveBack_B67 K h_z_33 g_h0 (fun z9 q1 q2 q3 hk_z9 => (ih _ _ _ _ hk_z9 ))))))))))))))
theorem lkp_fn_X3_giveBack_B23 {F : Nat} {sh : Nat → Nat × Nat} {n : Nat} {h0 : Nat} {z_8 : St} {p_7 : Int32} (K : Kp Q G) (h_z_8 : Q z_8) (g_h0 : G h0) : LkP Q (fn_X3_giveBack_B23 F sh n h0 z_8 p_7) := by
  unfold fn_X3_giveBack_B23
  exact (lkp_fn_X3_giveBack_L28 K g_h0 _ _ _ _ _ h_z_8 )
theorem lkp_fn_X3_giveBack {F : Nat} {sh : Nat → Nat × Nat} {n : Nat} {z : St} {h0 : Nat} (K : Kp Q G) (h_z : Q z) (g_h0 : G h0) : LkP Q (fn_X3_giveBack F sh n z h0) := by
  unfold fn_X3_giveBack
  exact (LkP.xg (LkP.xl (fun k_2 q => have g_k_2 := K.2.2.2.2.2 _ _ _ _ h_z g_h0 q; (LkP.xg (LkP.xc (lkp_fn_X5_gives K h_z g_k_2) (fun z_3 r_4 h_z_3 => (LkP.ite (lkp_fn_X3_giveBack_B23 K h_z_3 g_h0) (lkp_fn_X3_giveBack_B23 K h_z_3 g_h0))))))))
theorem lkp_fn_X6_readStructures_L37 {F : Nat} {sh : Nat → Nat × Nat} {n : Nat} {h0 : Nat} (K : Kp Q G) (g_h0 : G h0) : ∀ (f : Nat) (v1 : St) (v2 : Int32), Q v1 → LkP Q (fn_X6_readStructures_L37 F sh n h0 f v1 v2) := by
  intro f
  induction f with
  | zero => intros; exact LkP.none
  | succ f_12 ih =>
    intro z_11 p_10 h_z_11
    exact (LkP.xl (fun k_13 q => have g_k_13 := K.2.2.2.2.2 _ _ _ _ h_z_11 g_h0 q; (LkP.xg (LkP.ite (LkP.ret h_z_11) (LkP.ite (LkP.xl (fun k_17 q => have g_k_17 := K.2.2.2.2.2 _ _ _ _ h_z_11 g_h0 q; (LkP.xg (LkP.xc (lkp_fn_X5_setStructure K h_z_11 g_k_17) (fun z_18 _ h_z_18 => (LkP.xl (fun k_21 q => have g_k_21 := K.2.2.2.2.2 _ _ _ _ h_z_18 g_h0 q; (LkP.xc (lkp_fn_X6_readNumber K h_z_18 g_h0) (fun z_22 r_23 h_z_22 => (LkP.xg (LkP.xc (lkp_fn_X5_setStructure K h_z_22 g_k_21) (fun z_25 _ h_z_25 => (LkP.xc (lkp_fn_X6_readNumber K h_z_25 g_h0) (fun z_28 r_29 h_z_28 => (LkP.xl (fun k_31 q => have g_k_31 := K.2.2.2.2.2 _ _ _ _ h_z_28 g_h0 q; (LkP.xl (fun k_32 q => have g_k_32 := K.2.2.2.2.2 _ _ _ _ h_z_28 g_h0 q; (LkP.xg (LkP.xg (LkP.xc (lkp_fn_X5_setStructure K h_z_28 g_k_31) (fun z_34 _ h_z_34 => (LkP.xl (fun k_37 q => have g_k_37 := K.2.2.2.2.2 _ _ _ _ h_z_34 g_h0 q; (LkP.xg (LkP.xc (lkp_fn_X5_setStructure K h_z_34 g_k_37) (fun z_38 _ h_z_38 => (LkP.xl (fun k_41 q => have g_k_41 := K.2.2.2.2.2 _ _ _ _ h_z_38 g_h0 q; (LkP.xl (fun k_42 q => have g_k_42 := K.2.2.2.2.2 _ _ _ _ h_z_38 g_h0 q; (LkP.xg (LkP.xg (LkP.xc (lkp_fn_X5_setStructure K h_z_38 g_k_41) (fun z_44 _ h_z_44 => (LkP.xl (fun k_47 q => have g_k_47 := K.2.2.2.2.2 _ _ _ _ h_z_44 g_h0 q; (LkP.xg (LkP.xc (lkp_fn_X5_setStructure K h_z_44 g_k_47) (fun z_48 _ h_z_48 => (LkP.xc (lkp_fn_X6_readTypes K h_z_48 g_h0) (fun z_51 _ h_z_51 => (ih _ _ h_z_51 ))))))))))))))))))))))))))))))))))))))))))) (LkP.ret h_z_11))))))
theorem lkp_fn_X6_readStructures_B35 {F : Nat} {sh : Nat → Nat × Nat} {n : Nat} {h0 : Nat} {z_9 : St} (K : Kp Q G) (h_z_9 : Q z_9) (g_h0 : G h0) : LkP Q (fn_X6_readStructures_B35 F sh n h0 z_9) := by
  unfold fn_X6_readStructures_B35
  exact (lkp_fn_X6_readStructures_L37 K g_h0 _ _ _ h_z_9 )
theorem lkp_fn_X6_readStructures {F : Nat} {sh : Nat → Nat × Nat} {n : Nat} {z : St} {h0 : Nat} (K : Kp Q G) (h_z : Q z) (g_h0 : G h0) : LkP Q (fn_X6_readStructures F sh n z h0) := by
  unfold fn_X6_readStructures
  exact (LkP.xg (LkP.xl (fun k_2 q => have g_k_2 := K.2.2.2.2.2 _ _ _ _ h_z g_h0 q; (LkP.xc (lkp_fn_X6_readNumber K h_z g_h0) (fun z_3 r_4 h_z_3 => (LkP.xg (LkP.lts (K.1 _ _ _ _ h_z_3 g_k_2) (fun z_8 h_z_8 => (LkP.ite (LkP.xl (fun k_54 q => have g_k_54 := K.2.2.2.2.2 _ _ _ _ h_z_8 g_h0 q; (LkP.xl (fun k_55 q => have g_k_55 := K.2.2.2.2.2 _ _ _ _ h_z_8 g_h0 q; (LkP.xg (LkP.xg (LkP.lts (K.1 _ _ _ _ h_z_8 g_k_54) (fun z_59 h_z_59 => (lkp_fn_X6_readStructures_B35 K h_z_59 g_h0))))))))) (lkp_fn_X6_readStructures_B35 K h_z_8 g_h0))))))))))
theorem lkp_fn_X18_onReference {F : Nat} {sh : Nat → Nat × Nat} {n : Nat} {z : St} {h0 : Nat} {x0 : Int32} {x1 : Int32} (K : Kp Q G) (h_z : Q z) (g_h0 : G h0) : LkP Q (fn_X18_onReference F sh n z h0 x0 x1) := by
  unfold fn_X18_onReference
  exact (LkP.xg (LkP.xc (lkp_fn_X18_takeAny K h_z g_h0) (fun z_1 r_2 h_z_1 => (LkP.xc (lkp_fn_X18_goesOn K h_z_1 g_h0) (fun z_5 r_6 h_z_5 => (LkP.ite (LkP.ret h_z_5) (LkP.ite (LkP.xc (lkp_fn_X18_push K h_z_5 g_h0) (fun z_60 _ h_z_60 => (LkP.ret h_z_60))) (LkP.ite (LkP.xl (fun k_44 q => have g_k_44 := K.2.2.2.2.2 _ _ _ _ h_z_5 g_h0 q; (LkP.xg (LkP.xc (lkp_fn_X15_sizeOf K  _ _ _ _ h_z_5 g_k_44) (fun z_45 r_46 h_z_45 => (LkP.xc (lkp_fn_X18_spend K h_z_45 g_h0) (fun z_49 r_50 h_z_49 => (LkP.ite (LkP.ret h_z_49) (LkP.xl (fun k_53 q => have g_k_53 := K.2.2.2.2.2 _ _ _ _ h_z_49 g_h0 q; (LkP.xg (LkP.xc (lkp_fn_X15_copy K  _ _ _ _ h_z_49 g_k_53) (fun z_54 r_55 h_z_54 => (LkP.xc (lkp_fn_X18_push K h_z_54 g_h0) (fun z_58 _ h_z_58 => (LkP.ret h_z_58)))))))))))))))) (LkP.ite (LkP.xc (lkp_fn_X18_takeAny K h_z_5 g_h0) (fun z_22 r_23 h_z_22 => (LkP.xc (lkp_fn_X18_goesOn K h_z_22 g_h0) (fun z_25 r_26 h_z_25 => (LkP.ite (LkP.ret h_z_25) (LkP.xl (fun k_29 q => have g_k_29 := K.2.2.2.2.2 _ _ _ _ h_z_25 g_h0 q; (LkP.xg (LkP.xl (fun k_31 q => have g_k_31 := K.2.2.2.2.2 _ _ _ _ h_z_25 g_k_29 q; (LkP.xg (LkP.xl (fun k_33 q => have g_k_33 := K.2.2.2.2.2 _ _ _ _ h_z_25 g_h0 q; (LkP.xg (LkP.xl (fun k_35 q => have g_k_35 := K.2.2.2.2.2 _ _ _ _ h_z_25 g_k_33 q; (LkP.xg (LkP.ite (LkP.xl (fun k_38 q => have g_k_38 := K.2.2.2.2.2 _ _ _ _ h_z_25 g_h0 q; (LkP.xg (LkP.xc (lkp_fn_X15_become K h_z_25 g_k_38) (fun z_39 _ h_z_39 => (LkP.ret h_z_39)))))) (LkP.xc (lkp_fn_X18_slip K h_z_25 g_h0) (fun z_42 _ h_z_42 => (LkP.ret h_z_42))))))))))))))))))))) (LkP.xl (fun k_12 q => have g_k_12 := K.2.2.2.2.2 _ _ _ _ h_z_5 g_h0 q; (LkP.xg (LkP.xc (lkp_fn_X15_part K h_z_5 g_k_12) (fun z_13 r_14 h_z_13 => (LkP.ite (LkP.xc (lkp_fn_X18_slip K h_z_13 g_h0) (fun z_20 _ h_z_20 => (LkP.ret h_z_20))) (LkP.xc (lkp_fn_X18_push K h_z_13 g_h0) (fun z_18 _ h_z_18 => (LkP.ret h_z_18))))))))))))))))))
theorem lkp_fn_X3_keep_B108 {F : Nat} {sh : Nat → Nat × Nat} {n : Nat} {x0 : Int32} {h0 : Nat} {r_2 : Int64} {v_4 : Int64} {z_20 : St} (K : Kp Q G) (h_z_20 : Q z_20) (g_h0 : G h0) : LkP Q (fn_X3_keep_B108 F sh n x0 h0 r_2 v_4 z_20) := by
  unfold fn_X3_keep_B108
  exact (LkP.ite (LkP.xc (lkp_fn_X3_put K h_z_20 g_h0) (fun z_37 _ h_z_37 => (LkP.ret h_z_37))) (LkP.ite (LkP.xc (lkp_fn_X3_put K h_z_20 g_h0) (fun z_35 _ h_z_35 => (LkP.ret h_z_35))) (LkP.ite (LkP.ret h_z_20) (LkP.ite (LkP.xc (lkp_fn_X5_prefixed K h_z_20) (fun z_30 r_31 h_z_30 => (LkP.xc (lkp_fn_X3_putReference K h_z_30 g_h0) (fun z_33 _ h_z_33 => (LkP.ret h_z_33))))) (LkP.xc (lkp_fn_X5_prefixed K h_z_20) (fun z_25 r_26 h_z_25 => (LkP.xc (lkp_fn_X3_putReference K h_z_25 g_h0) (fun z_28 _ h_z_28 => (LkP.ret h_z_28)))))))))
theorem lkp_fn_X3_keep_B96 {F : Nat} {sh : Nat → Nat × Nat} {n : Nat} {h0 : Nat} {v_4 : Int64} {x0 : Int32} {r_2 : Int64} {z_41 : St} {p_40 : Int32} (K : Kp Q G) (h_z_41 : Q z_41) (g_h0 : G h0) : LkP Q (fn_X3_keep_B96 F sh n h0 v_4 x0 r_2 z_41 p_40) := by
  unfold fn_X3_keep_B96
  exact (LkP.xc (lkp_fn_X3_isLive K h_z_41 g_h0) (fun z_42 r_43 h_z_42 => (LkP.ite (lkp_fn_X3_keep_B108 K h_z_42 g_h0) (LkP.xc (lkp_fn_X3_fail K h_z_42 g_h0) (fun z_46 _ h_z_46 => (lkp_fn_X3_keep_B108 K h_z_46 g_h0))))))
theorem lkp_fn_X3_keep_B82 {F : Nat} {sh : Nat → Nat × Nat} {n : Nat} {x0 : Int32} {h0 : Nat} {v_4 : Int64} {r_2 : Int64} {z_39 : St} (K : Kp Q G) (h_z_39 : Q z_39) (g_h0 : G h0) : LkP Q (fn_X3_keep_B82 F sh n x0 h0 v_4 r_2 z_39) := by
  unfold fn_X3_keep_B82
  exact (LkP.ite (lkp_fn_X3_keep_B96 K h_z_39 g_h0) (lkp_fn_X3_keep_B96 K h_z_39 g_h0))
theorem lkp_fn_X3_keep_B70 {F : Nat} {sh : Nat → Nat × Nat} {n : Nat} {x0 : Int32} {h0 : Nat} {v_4 : Int64} {r_2 : Int64} {z_19 : St} (K : Kp Q G) (h_z_19 : Q z_19) (g_h0 : G h0) : LkP Q (fn_X3_keep_B70 F sh n x0 h0 v_4 r_2 z_19) := by
  unfold fn_X3_keep_B70
  exact (LkP.ite (lkp_fn_X3_keep_B82 K h_z_19 g_h0) (LkP.ite (lkp_fn_X3_keep_B108 K h_z_19 g_h0) (lkp_fn_X3_keep_B82 K h_z_19 g_h0)))
theorem lkp_fn_X3_keep_B55 {F : Nat} {sh : Nat → Nat × Nat} {n : Nat} {h0 : Nat} {r_2 : Int64} {x0 : Int32} {v_4 : Int64} {z_15 : St} (K : Kp Q G) (h_z_15 : Q z_15) (g_h0 : G h0) : LkP Q (fn_X3_keep_B55 F sh n h0 r_2 x0 v_4 z_15) := by
  unfold fn_X3_keep_B55
  exact (LkP.xc (lkp_fn_X3_has K h_z_15 g_h0) (fun z_16 r_17 h_z_16 => (LkP.ite (LkP.xc (lkp_fn_X3_fail K h_z_16 g_h0) (fun z_52 _ h_z_52 => (lkp_fn_X3_keep_B70 K h_z_52 g_h0))) (lkp_fn_X3_keep_B70 K h_z_16 g_h0))))
theorem lkp_fn_X3_keep_B30 {F : Nat} {sh : Nat → Nat × Nat} {n : Nat} {h0 : Nat} {r_2 : Int64} {x0 : Int32} {v_4 : Int64} {z_6 : St} {p_5 : Int64} (K : Kp Q G) (h_z_6 : Q z_6) (g_h0 : G h0) : LkP Q (fn_X3_keep_B30 F sh n h0 r_2 x0 v_4 z_6 p_5) := by
  unfold fn_X3_keep_B30
  exact (LkP.xg (LkP.xc (lkp_fn_X3_takeOnly K h_z_6 g_h0) (fun z_7 _ h_z_7 => (LkP.xl (fun k_10 q => have g_k_10 := K.2.2.2.2.2 _ _ _ _ h_z_7 g_h0 q; (LkP.xg (LkP.xc (lkp_fn_X5_flags K h_z_7 g_k_10) (fun z_11 r_12 h_z_11 => (LkP.ite (LkP.xc (lkp_fn_X3_fail K h_z_11 g_h0) (fun z_55 _ h_z_55 => (lkp_fn_X3_keep_B55 K h_z_55 g_h0))) (lkp_fn_X3_keep_B55 K h_z_11 g_h0))))))))))
theorem lkp_fn_X3_keep {F : Nat} {sh : Nat → Nat × Nat} {n : Nat} {z : St} {h0 : Nat} {x0 : Int32} {x1 : Int32} (K : Kp Q G) (h_z : Q z) (g_h0 : G h0) : LkP Q (fn_X3_keep F sh n z h0 x0 x1) := by
  unfold fn_X3_keep
  exact (LkP.xc (lkp_fn_X5_structureType K h_z) (fun z_1 r_2 h_z_1 => (LkP.ltv (fun v_4 => (LkP.ite (lkp_fn_X3_keep_B30 K h_z_1 g_h0) (lkp_fn_X3_keep_B30 K h_z_1 g_h0))))))
theorem lkp_fn_X4_lineUp_B93 {F : Nat} {sh : Nat → Nat × Nat} {n : Nat} {h0 : Nat} {r_9 : Int32} {x0 : Int32} {z_15 : St} (K : Kp Q G) (h_z_15 : Q z_15) (g_h0 : G h0) : LkP Q (fn_X4_lineUp_B93 F sh n h0 r_9 x0 z_15) := by
  unfold fn_X4_lineUp_B93
  exact (LkP.xl (fun k_16 q => have g_k_16 := K.2.2.2.2.2 _ _ _ _ h_z_15 g_h0 q; (LkP.xg (LkP.xl (fun k_18 q => have g_k_18 := K.2.2.2.2.2 _ _ _ _ h_z_15 g_k_16 q; (LkP.xg (LkP.ltv (fun v_20 => (LkP.ite (LkP.xc (lkp_fn_X4_pop K h_z_15 g_h0) (fun z_33 r_34 h_z_33 => (LkP.xc (lkp_fn_X4_pushNumber K h_z_33 g_h0) (fun z_36 _ h_z_36 => (LkP.ret h_z_36))))) (LkP.ite (LkP.xc (lkp_fn_X4_append K h_z_15 g_h0) (fun z_31 _ h_z_31 => (LkP.ret h_z_31))) (LkP.ite (LkP.xc (lkp_fn_X4_removeLast K h_z_15 g_h0) (fun z_29 _ h_z_29 => (LkP.ret h_z_29))) (LkP.ite (LkP.xc (lkp_fn_X4_exchange K h_z_15 g_h0) (fun z_27 _ h_z_27 => (LkP.ret h_z_27))) (LkP.xc (lkp_fn_X4_borrowElement K h_z_15 g_h0) (fun z_25 _ h_z_25 => (LkP.ret h_z_25)))))))))))))))
theorem lkp_fn_X4_lineUp_B49 {F : Nat} {sh : Nat → Nat × Nat} {n : Nat} {h0 : Nat} {x0 : Int32} {z_3 : St} {p_2 : Int32} (K : Kp Q G) (h_z_3 : Q z_3) (g_h0 : G h0) : LkP Q (fn_X4_lineUp_B49 F sh n h0 x0 z_3 p_2) := by
  unfold fn_X4_lineUp_B49
  exact (LkP.xg (LkP.xc (lkp_fn_X4_peek K h_z_3 g_h0) (fun z_4 r_5 h_z_4 => (LkP.xc (lkp_fn_X4_target K h_z_4 g_h0) (fun z_8 r_9 h_z_8 => (LkP.xl (fun k_11 q => have g_k_11 := K.2.2.2.2.2 _ _ _ _ h_z_8 g_h0 q; (LkP.xg (LkP.xl (fun k_13 q => have g_k_13 := K.2.2.2.2.2 _ _ _ _ h_z_8 g_k_11 q; (LkP.xg (LkP.ite (lkp_fn_X4_lineUp_B93 K h_z_8 g_h0) (LkP.xl (fun k_39 q => have g_k_39 := K.2.2.2.2.2 _ _ _ _ h_z_8 g_h0 q; (LkP.xg (LkP.lts (K.1 _ _ _ _ h_z_8 g_k_39) (fun z_42 h_z_42 => (lkp_fn_X4_lineUp_B93 K h_z_42 g_h0))))))))))))))))))
theorem lkp_fn_X4_lineUp_B34 {F : Nat} {sh : Nat → Nat × Nat} {n : Nat} {h0 : Nat} {x0 : Int32} {z_43 : St} (K : Kp Q G) (h_z_43 : Q z_43) (g_h0 : G h0) : LkP Q (fn_X4_lineUp_B34 F sh n h0 x0 z_43) := by
  unfold fn_X4_lineUp_B34
  exact (lkp_fn_X4_lineUp_B49 K h_z_43 g_h0)
theorem lkp_fn_X4_lineUp {F : Nat} {sh : Nat → Nat × Nat} {n : Nat} {z : St} {h0 : Nat} {x0 : Int32} {x1 : Int32} (K : Kp Q G) (h_z : Q z) (g_h0 : G h0) : LkP Q (fn_X4_lineUp F sh n z h0 x0 x1) := by
  unfold fn_X4_lineUp
  exact (LkP.ite (LkP.xg (LkP.xc (lkp_fn_X4_pay K h_z g_h0) (fun z_47 r_48 h_z_47 => (LkP.ite (LkP.ret h_z_47) (LkP.xc (lkp_fn_X4_gather K h_z_47 g_h0) (fun z_52 _ h_z_52 => (LkP.ret h_z_52))))))) (LkP.ite (lkp_fn_X4_lineUp_B34 K h_z g_h0) (LkP.ite (lkp_fn_X4_lineUp_B34 K h_z g_h0) (LkP.ite (lkp_fn_X4_lineUp_B49 K h_z g_h0) (lkp_fn_X4_lineUp_B49 K h_z g_h0)))))
theorem lkp_fn_X3_refer_B147 {F : Nat} {sh : Nat → Nat × Nat} {n : Nat} {h0 : Nat} {v_17 : Int64} {z_25 : St} (K : Kp Q G) (h_z_25 : Q z_25) (g_h0 : G h0) : LkP Q (fn_X3_refer_B147 F sh n h0 v_17 z_25) := by
  unfold fn_X3_refer_B147
  exact (LkP.xc (lkp_fn_X3_isSole K h_z_25 g_h0) (fun z_26 r_27 h_z_26 => (LkP.ite (LkP.xc (lkp_fn_X3_fail K h_z_26 g_h0) (fun z_30 _ h_z_30 => (LkP.ret h_z_30))) (LkP.ret h_z_26))))
theorem lkp_fn_X3_refer_B38 {F : Nat} {sh : Nat → Nat × Nat} {n : Nat} {h0 : Nat} {x1 : Int32} {x2 : Int32} {z_58 : St} {p_57 : Int32} (K : Kp Q G) (h_z_58 : Q z_58) (g_h0 : G h0) : LkP Q (fn_X3_refer_B38 F sh n h0 x1 x2 z_58 p_57) := by
  unfold fn_X3_refer_B38
  exact (LkP.xl (fun k_59 q => have g_k_59 := K.2.2.2.2.2 _ _ _ _ h_z_58 g_h0 q; (LkP.xg (LkP.xc (lkp_fn_X5_fieldType K h_z_58 g_k_59) (fun z_60 r_61 h_z_60 => (LkP.xc (lkp_fn_X5_prefixed K h_z_60) (fun z_64 r_65 h_z_64 => (LkP.xc (lkp_fn_X3_putReference K h_z_64 g_h0) (fun z_67 _ h_z_67 => (LkP.ret h_z_67))))))))))
theorem lkp_fn_X3_refer_B22 {F : Nat} {sh : Nat → Nat × Nat} {n : Nat} {h0 : Nat} {r_50 : Int64} {x0 : Int32} {x1 : Int32} {x2 : Int32} {z_53 : St} {p_52 : Int32} (K : Kp Q G) (h_z_53 : Q z_53) (g_h0 : G h0) : LkP Q (fn_X3_refer_B22 F sh n h0 r_50 x0 x1 x2 z_53 p_52) := by
  unfold fn_X3_refer_B22
  exact (LkP.xg (LkP.xc (lkp_fn_X3_takeReferenceTo K h_z_53 g_h0) (fun z_54 _ h_z_54 => (LkP.ite (lkp_fn_X3_refer_B38 K h_z_54 g_h0) (lkp_fn_X3_refer_B38 K h_z_54 g_h0)))))
theorem lkp_fn_X3_refer {F : Nat} {sh : Nat → Nat × Nat} {n : Nat} {z : St} {h0 : Nat} {x0 : Int32} {x1 : Int32} {x2 : Int32} (K : Kp Q G) (h_z : Q z) (g_h0 : G h0) : LkP Q (fn_X3_refer F sh n z h0 x0 x1 x2) := by
  unfold fn_X3_refer
  exact (LkP.ite (LkP.ite (LkP.xg (LkP.xc (lkp_fn_X3_takeReference K h_z g_h0) (fun z_35 r_36 h_z_35 => (LkP.xc (lkp_fn_X3_has K h_z_35 g_h0) (fun z_39 r_40 h_z_39 => (LkP.ite (LkP.xc (lkp_fn_X3_fail K h_z_39 g_h0) (fun z_45 _ h_z_45 => (LkP.xc (lkp_fn_X3_put K h_z_45 g_h0) (fun z_47 _ h_z_47 => (LkP.ret h_z_47))))) (LkP.xc (lkp_fn_X3_put K h_z_39 g_h0) (fun z_43 _ h_z_43 => (LkP.ret h_z_43))))))))) (LkP.ite (LkP.xg (LkP.xc (lkp_fn_X3_takeReference K h_z g_h0) (fun z_13 r_14 h_z_13 => (LkP.ltv (fun v_17 => (LkP.xc (lkp_fn_X3_takeOnly K h_z_13 g_h0) (fun z_18 _ h_z_18 => (LkP.xl (fun k_20 q => have g_k_20 := K.2.2.2.2.2 _ _ _ _ h_z_18 g_h0 q; (LkP.xg (LkP.xc (lkp_fn_X5_abilities K h_z_18 g_k_20) (fun z_21 r_22 h_z_21 => (LkP.ite (LkP.xc (lkp_fn_X3_fail K h_z_21 g_h0) (fun z_33 _ h_z_33 => (lkp_fn_X3_refer_B147 K h_z_33 g_h0))) (lkp_fn_X3_refer_B147 K h_z_21 g_h0)))))))))))))) (LkP.xg (LkP.xc (lkp_fn_X3_takeReference K h_z g_h0) (fun z_4 r_5 h_z_4 => (LkP.xc (lkp_fn_X5_prefixed K h_z_4) (fun z_8 r_9 h_z_8 => (LkP.xc (lkp_fn_X3_putReference K h_z_8 g_h0) (fun z_11 _ h_z_11 => (LkP.ret h_z_11)))))))))) (LkP.xc (lkp_fn_X5_structureType K h_z) (fun z_49 r_50 h_z_49 => (LkP.ite (lkp_fn_X3_refer_B22 K h_z_49 g_h0) (lkp_fn_X3_refer_B22 K h_z_49 g_h0)))))
theorem lkp_fn_X4_compare_B174 {F : Nat} {sh : Nat → Nat × Nat} {n : Nat} {h0 : Nat} {z_2 : St} {p_1 : Int32} (K : Kp Q G) (h_z_2 : Q z_2) (g_h0 : G h0) : LkP Q (fn_X4_compare_B174 F sh n h0 z_2 p_1) := by
  unfold fn_X4_compare_B174
  exact (LkP.ite (LkP.xg (LkP.xc (lkp_fn_X4_pushNumber K h_z_2 g_h0) (fun z_4 _ h_z_4 => (LkP.ret h_z_4)))) (LkP.xg (LkP.xc (lkp_fn_X4_pushNumber K h_z_2 g_h0) (fun z_7 _ h_z_7 => (LkP.ret h_z_7)))))
theorem lkp_fn_X4_compare_B172 {F : Nat} {sh : Nat → Nat × Nat} {n : Nat} {h0 : Nat} {z_32 : St} {p_31 : Int32} (K : Kp Q G) (h_z_32 : Q z_32) (g_h0 : G h0) : LkP Q (fn_X4_compare_B172 F sh n h0 z_32 p_31) := by
  unfold fn_X4_compare_B172
  exact (lkp_fn_X4_compare_B174 K h_z_32 g_h0)
theorem lkp_fn_X4_compare_B59 {F : Nat} {sh : Nat → Nat × Nat} {n : Nat} {h0 : Nat} {z_63 : St} {p_62 : Int32} (K : Kp Q G) (h_z_63 : Q z_63) (g_h0 : G h0) : LkP Q (fn_X4_compare_B59 F sh n h0 z_63 p_62) := by
  unfold fn_X4_compare_B59
  exact (lkp_fn_X4_compare_B174 K h_z_63 g_h0)
theorem lkp_fn_X4_compare_B51 {F : Nat} {sh : Nat → Nat × Nat} {n : Nat} {r_57 : Int32} {h0 : Nat} {z_61 : St} {p_60 : Int32} (K : Kp Q G) (h_z_61 : Q z_61) (g_h0 : G h0) : LkP Q (fn_X4_compare_B51 F sh n r_57 h0 z_61 p_60) := by
  unfold fn_X4_compare_B51
  exact (LkP.ite (lkp_fn_X4_compare_B59 K h_z_61 g_h0) (lkp_fn_X4_compare_B59 K h_z_61 g_h0))
theorem lkp_fn_X4_compare {F : Nat} {sh : Nat → Nat × Nat} {n : Nat} {z : St} {h0 : Nat} {x0 : Int32} {x1 : Int32} {x2 : Int32} (K : Kp Q G) (h_z : Q z) (g_h0 : G h0) : LkP Q (fn_X4_compare F sh n z h0 x0 x1 x2) := by
  unfold fn_X4_compare
  exact (LkP.ite (LkP.xg (LkP.xl (fun k_12 q => have g_k_12 := K.2.2.2.2.2 _ _ _ _ h_z g_h0 q; (LkP.xg (LkP.xl (fun k_14 q => have g_k_14 := K.2.2.2.2.2 _ _ _ _ h_z g_k_12 q; (LkP.xg (LkP.xl (fun k_16 q => have g_k_16 := K.2.2.2.2.2 _ _ _ _ h_z g_h0 q; (LkP.xg (LkP.xl (fun k_18 q => have g_k_18 := K.2.2.2.2.2 _ _ _ _ h_z g_k_16 q; (LkP.xg (LkP.xl (fun k_20 q => have g_k_20 := K.2.2.2.2.2 _ _ _ _ h_z g_h0 q; (LkP.xg (LkP.xl (fun k_22 q => have g_k_22 := K.2.2.2.2.2 _ _ _ _ h_z g_k_20 q; (LkP.xg (LkP.xl (fun k_24 q => have g_k_24 := K.2.2.2.2.2 _ _ _ _ h_z g_h0 q; (LkP.xg (LkP.xl (fun k_26 q => have g_k_26 := K.2.2.2.2.2 _ _ _ _ h_z g_k_24 q; (LkP.xg (LkP.xc (lkp_fn_X10_compare K h_z) (fun z_28 r_29 h_z_28 => (LkP.ite (LkP.ite (lkp_fn_X4_compare_B172 K h_z_28 g_h0) (lkp_fn_X4_compare_B172 K h_z_28 g_h0)) (LkP.ite (LkP.ite (lkp_fn_X4_compare_B172 K h_z_28 g_h0) (lkp_fn_X4_compare_B172 K h_z_28 g_h0)) (LkP.ite (LkP.ite (lkp_fn_X4_compare_B172 K h_z_28 g_h0) (lkp_fn_X4_compare_B172 K h_z_28 g_h0)) (LkP.ite (lkp_fn_X4_compare_B172 K h_z_28 g_h0) (lkp_fn_X4_compare_B172 K h_z_28 g_h0)))))))))))))))))))))))))))))))) (LkP.xg (LkP.xl (fun k_41 q => have g_k_41 := K.2.2.2.2.2 _ _ _ _ h_z g_h0 q; (LkP.xg (LkP.xc (lkp_fn_X1_sizeOf K h_z g_k_41) (fun z_42 r_43 h_z_42 => (LkP.xl (fun k_46 q => have g_k_46 := K.2.2.2.2.2 _ _ _ _ h_z_42 g_h0 q; (LkP.xg (LkP.xc (lkp_fn_X1_sizeOf K h_z_42 g_k_46) (fun z_47 r_48 h_z_47 => (LkP.xc (lkp_fn_X4_pay K h_z_47 g_h0) (fun z_51 r_52 h_z_51 => (LkP.ite (LkP.ret h_z_51) (LkP.xl (fun k_55 q => have g_k_55 := K.2.2.2.2.2 _ _ _ _ h_z_51 g_h0 q; (LkP.xg (LkP.xc (lkp_fn_X1_areAlike K h_z_51 g_k_55) (fun z_56 r_57 h_z_56 => (LkP.ite (lkp_fn_X4_compare_B51 K h_z_56 g_h0) (lkp_fn_X4_compare_B51 K h_z_56 g_h0))))))))))))))))))))))
theorem lkp_fn_X4_giveBack_L157 {F : Nat} {sh : Nat → Nat × Nat} {n : Nat} {v_25 : Int32} {h0 : Nat} {v_26 : Int32} (K : Kp Q G) (g_h0 : G h0) : ∀ (f : Nat) (v1 : St) (v2 : Int32), Q v1 → LkP Q (fn_X4_giveBack_L157 F sh n v_25 h0 v_26 f v1 v2) := by
  intro f
  induction f with
  | zero => intros; exact LkP.none
  | succ f_31 ih =>
    intro z_30 p_29 h_z_30
    exact (LkP.ite (LkP.ret h_z_30) (LkP.xl (fun k_33 q => have g_k_33 := K.2.2.2.2.2 _ _ _ _ h_z_30 g_h0 q; (LkP.xg (LkP.xc (lkp_fn_X4_push K h_z_30 g_h0) (fun z_35 _ h_z_35 => (ih _ _ h_z_35 )))))))
theorem lkp_fn_X4_giveBack_B106 {F : Nat} {sh : Nat → Nat × Nat} {n : Nat} {p_15 : Int32} {ko52 : St → Int32 → Option (St × Unit)} {z_41 : St} (K : Kp Q G) (h_z_41 : Q z_41) (hko_ko52 : ∀ (w0 : St) (w1 : Int32), Q w0 → LkP Q (ko52 w0 w1)) : LkP Q (fn_X4_giveBack_B106 F sh n p_15 ko52 z_41) := by
  unfold fn_X4_giveBack_B106
  exact (hko_ko52 _ _ h_z_41 )
theorem lkp_fn_X4_giveBack_L52 {F : Nat} {sh : Nat → Nat × Nat} {n : Nat} {k_4 : Nat} {v_7 : Int32} {h0 : Nat} (K : Kp Q G) (g_k_4 : G k_4) (g_h0 : G h0) : ∀ (f : Nat) (v1 : St) (v2 : Int32), Q v1 → LkP Q (fn_X4_giveBack_L52 F sh n k_4 v_7 h0 f v1 v2) := by
  intro f
  induction f with
  | zero => intros; exact LkP.none
  | succ f_17 ih =>
    intro z_16 p_15 h_z_16
    exact (LkP.xc (lkp_fn_X5_localCount K h_z_16 g_k_4) (fun z_18 r_19 h_z_18 => (LkP.ite (LkP.ite (LkP.lts (K.1 _ _ _ _ h_z_18 g_h0) (fun z_38 h_z_38 => (LkP.ret h_z_38))) (LkP.xl (fun k_23 q => have g_k_23 := K.2.2.2.2.2 _ _ _ _ h_z_18 g_h0 q; (LkP.xg (LkP.ltv (fun v_25 => (LkP.ltv (fun v_26 => (LkP.lts (K.1 _ _ _ _ h_z_18 g_h0) (fun z_28 h_z_28 => (lkp_fn_X4_giveBack_L157 K g_h0 _ _ _ h_z_28 ))))))))))) (LkP.xl (fun k_39 q => have g_k_39 := K.2.2.2.2.2 _ _ _ _ h_z_18 g_h0 q; (LkP.xg (LkP.ite (lkp_fn_X4_giveBack_B106 K h_z_18 (fun z9 q3 hk_z9 => (ih _ _ hk_z9 ))) (LkP.xc (lkp_fn_X5_localType K h_z_18 g_k_4) (fun z_43 r_44 h_z_43 => (LkP.xc (lkp_fn_X5_abilities K h_z_43 g_k_4) (fun z_46 r_47 h_z_46 => (LkP.ite (LkP.xl (fun k_50 q => have g_k_50 := K.2.2.2.2.2 _ _ _ _ h_z_46 g_h0 q; (LkP.xg (LkP.lts (K.1 _ _ _ _ h_z_46 g_k_50) (fun z_53 h_z_53 => (lkp_fn_X4_giveBack_B106 K h_z_53 (fun z9 q3 hk_z9 => (ih _ _ hk_z9 )))))))) (lkp_fn_X4_giveBack_B106 K h_z_46 (fun z9 q3 hk_z9 => (ih _ _ hk_z9 )))))))))))))))
theorem lkp_fn_X4_giveBack_B50 {F : Nat} {sh : Nat → Nat × Nat} {n : Nat} {k_4 : Nat} {v_7 : Int32} {h0 : Nat} {z_14 : St} (K : Kp Q G) (h_z_14 : Q z_14) (g_k_4 : G k_4) (g_h0 : G h0) : LkP Q (fn_X4_giveBack_B50 F sh n k_4 v_7 h0 z_14) := by
  unfold fn_X4_giveBack_B50
  exact (lkp_fn_X4_giveBack_L52 K g_k_4 g_h0 _ _ _ h_z_14 )
theorem lkp_fn_X4_giveBack {F : Nat} {sh : Nat → Nat × Nat} {n : Nat} {z : St} {h0 : Nat} (K : Kp Q G) (h_z : Q z) (g_h0 : G h0) : LkP Q (fn_X4_giveBack F sh n z h0) := by
  unfold fn_X4_giveBack
  exact (LkP.xg (LkP.xl (fun k_2 q => have g_k_2 := K.2.2.2.2.2 _ _ _ _ h_z g_h0 q; (LkP.xg (LkP.xl (fun k_4 q => have g_k_4 := K.2.2.2.2.2 _ _ _ _ h_z g_k_2 q; (LkP.xl (fun k_5 q => have g_k_5 := K.2.2.2.2.2 _ _ _ _ h_z g_h0 q; (LkP.xg (LkP.ltv (fun v_7 => (LkP.xl (fun k_8 q => have g_k_8 := K.2.2.2.2.2 _ _ _ _ h_z g_h0 q; (LkP.xg (LkP.xg (LkP.xc (lkp_fn_X5_gives K h_z g_k_4) (fun z_10 r_11 h_z_10 => (LkP.ite (lkp_fn_X4_giveBack_B50 K h_z_10 g_k_4 g_h0) (LkP.xl (fun k_55 q => have g_k_55 := K.2.2.2.2.2 _ _ _ _ h_z_10 g_h0 q; (LkP.xg (LkP.lts (K.1 _ _ _ _ h_z_10 g_k_55) (fun z_58 h_z_58 => (lkp_fn_X4_giveBack_B50 K h_z_58 g_k_4 g_h0))))))))))))))))))))))))
theorem lkp_fn_X3_reckon_B170 {F : Nat} {sh : Nat → Nat × Nat} {n : Nat} {x0 : Int32} {h0 : Nat} {r_3 : Int64} {z_13 : St} (K : Kp Q G) (h_z_13 : Q z_13) (g_h0 : G h0) : LkP Q (fn_X3_reckon_B170 F sh n x0 h0 r_3 z_13) := by
  unfold fn_X3_reckon_B170
  exact (LkP.ite (LkP.ite (LkP.xc (lkp_fn_X3_put K h_z_13 g_h0) (fun z_16 _ h_z_16 => (LkP.ret h_z_16))) (LkP.xc (lkp_fn_X3_put K h_z_13 g_h0) (fun z_18 _ h_z_18 => (LkP.ret h_z_18)))) (LkP.xc (lkp_fn_X3_put K h_z_13 g_h0) (fun z_20 _ h_z_20 => (LkP.ret h_z_20))))
theorem lkp_fn_X3_reckon_B156 {F : Nat} {sh : Nat → Nat × Nat} {n : Nat} {h0 : Nat} {r_3 : Int64} {x0 : Int32} {z_22 : St} (K : Kp Q G) (h_z_22 : Q z_22) (g_h0 : G h0) : LkP Q (fn_X3_reckon_B156 F sh n h0 r_3 x0 z_22) := by
  unfold fn_X3_reckon_B156
  exact (LkP.xc (lkp_fn_X3_has K h_z_22 g_h0) (fun z_23 r_24 h_z_23 => (LkP.ite (LkP.xc (lkp_fn_X3_fail K h_z_23 g_h0) (fun z_27 _ h_z_27 => (lkp_fn_X3_reckon_B170 K h_z_27 g_h0))) (lkp_fn_X3_reckon_B170 K h_z_23 g_h0))))
theorem lkp_fn_X3_reckon_B144 {F : Nat} {sh : Nat → Nat × Nat} {n : Nat} {x0 : Int32} {h0 : Nat} {r_3 : Int64} {z_12 : St} (K : Kp Q G) (h_z_12 : Q z_12) (g_h0 : G h0) : LkP Q (fn_X3_reckon_B144 F sh n x0 h0 r_3 z_12) := by
  unfold fn_X3_reckon_B144
  exact (LkP.ite (lkp_fn_X3_reckon_B156 K h_z_12 g_h0) (LkP.ite (lkp_fn_X3_reckon_B156 K h_z_12 g_h0) (lkp_fn_X3_reckon_B170 K h_z_12 g_h0)))
theorem lkp_fn_X3_reckon_B139 {F : Nat} {sh : Nat → Nat × Nat} {n : Nat} {h0 : Nat} {r_3 : Int64} {x0 : Int32} {z_31 : St} (K : Kp Q G) (h_z_31 : Q z_31) (g_h0 : G h0) : LkP Q (fn_X3_reckon_B139 F sh n h0 r_3 x0 z_31) := by
  unfold fn_X3_reckon_B139
  exact (LkP.xc (lkp_fn_X3_takeOnly K h_z_31 g_h0) (fun z_32 _ h_z_32 => (lkp_fn_X3_reckon_B144 K h_z_32 g_h0)))
theorem lkp_fn_X3_reckon_B121 {F : Nat} {sh : Nat → Nat × Nat} {n : Nat} {x0 : Int32} {h0 : Nat} {r_3 : Int64} {z_11 : St} (K : Kp Q G) (h_z_11 : Q z_11) (g_h0 : G h0) : LkP Q (fn_X3_reckon_B121 F sh n x0 h0 r_3 z_11) := by
  unfold fn_X3_reckon_B121
  exact (LkP.ite (lkp_fn_X3_reckon_B139 K h_z_11 g_h0) (LkP.ite (lkp_fn_X3_reckon_B144 K h_z_11 g_h0) (LkP.ite (lkp_fn_X3_reckon_B144 K h_z_11 g_h0) (lkp_fn_X3_reckon_B139 K h_z_11 g_h0))))
theorem lkp_fn_X3_reckon_B111 {F : Nat} {sh : Nat → Nat × Nat} {n : Nat} {h0 : Nat} {x0 : Int32} {r_3 : Int64} {z_10 : St} {p_9 : Int32} (K : Kp Q G) (h_z_10 : Q z_10) (g_h0 : G h0) : LkP Q (fn_X3_reckon_B111 F sh n h0 x0 r_3 z_10 p_9) := by
  unfold fn_X3_reckon_B111
  exact (LkP.ite (LkP.xc (lkp_fn_X3_fail K h_z_10 g_h0) (fun z_38 _ h_z_38 => (lkp_fn_X3_reckon_B121 K h_z_38 g_h0))) (lkp_fn_X3_reckon_B121 K h_z_10 g_h0))
theorem lkp_fn_X3_reckon_B109 {F : Nat} {sh : Nat → Nat × Nat} {n : Nat} {h0 : Nat} {x0 : Int32} {r_3 : Int64} {z_48 : St} {p_47 : Int32} (K : Kp Q G) (h_z_48 : Q z_48) (g_h0 : G h0) : LkP Q (fn_X3_reckon_B109 F sh n h0 x0 r_3 z_48 p_47) := by
  unfold fn_X3_reckon_B109
  exact (lkp_fn_X3_reckon_B111 K h_z_48 g_h0)
theorem lkp_fn_X3_reckon_B97 {F : Nat} {sh : Nat → Nat × Nat} {n : Nat} {r_3 : Int64} {h0 : Nat} {x0 : Int32} {z_43 : St} (K : Kp Q G) (h_z_43 : Q z_43) (g_h0 : G h0) : LkP Q (fn_X3_reckon_B97 F sh n r_3 h0 x0 z_43) := by
  unfold fn_X3_reckon_B97
  exact (LkP.xc (lkp_fn_X5_isReference K h_z_43) (fun z_44 r_45 h_z_44 => (LkP.ite (lkp_fn_X3_reckon_B109 K h_z_44 g_h0) (lkp_fn_X3_reckon_B109 K h_z_44 g_h0))))
theorem lkp_fn_X3_reckon_B80 {F : Nat} {sh : Nat → Nat × Nat} {n : Nat} {h0 : Nat} {x0 : Int32} {r_3 : Int64} {z_53 : St} {p_52 : Int32} (K : Kp Q G) (h_z_53 : Q z_53) (g_h0 : G h0) : LkP Q (fn_X3_reckon_B80 F sh n h0 x0 r_3 z_53 p_52) := by
  unfold fn_X3_reckon_B80
  exact (lkp_fn_X3_reckon_B111 K h_z_53 g_h0)
theorem lkp_fn_X3_reckon_B63 {F : Nat} {sh : Nat → Nat × Nat} {n : Nat} {x0 : Int32} {r_3 : Int64} {h0 : Nat} {z_41 : St} {p_40 : Int32} (K : Kp Q G) (h_z_41 : Q z_41) (g_h0 : G h0) : LkP Q (fn_X3_reckon_B63 F sh n x0 r_3 h0 z_41 p_40) := by
  unfold fn_X3_reckon_B63
  exact (LkP.ite (LkP.ite (lkp_fn_X3_reckon_B80 K h_z_41 g_h0) (lkp_fn_X3_reckon_B80 K h_z_41 g_h0)) (LkP.ite (lkp_fn_X3_reckon_B97 K h_z_41 g_h0) (LkP.ite (lkp_fn_X3_reckon_B97 K h_z_41 g_h0) (lkp_fn_X3_reckon_B111 K h_z_41 g_h0))))
theorem lkp_fn_X3_reckon_B58 {F : Nat} {sh : Nat → Nat × Nat} {n : Nat} {h0 : Nat} {x0 : Int32} {r_3 : Int64} {z_58 : St} {p_57 : Int32} (K : Kp Q G) (h_z_58 : Q z_58) (g_h0 : G h0) : LkP Q (fn_X3_reckon_B58 F sh n h0 x0 r_3 z_58 p_57) := by
  unfold fn_X3_reckon_B58
  exact (lkp_fn_X3_reckon_B111 K h_z_58 g_h0)
theorem lkp_fn_X3_reckon_B53 {F : Nat} {sh : Nat → Nat × Nat} {n : Nat} {h0 : Nat} {x0 : Int32} {r_3 : Int64} {z_59 : St} (K : Kp Q G) (h_z_59 : Q z_59) (g_h0 : G h0) : LkP Q (fn_X3_reckon_B53 F sh n h0 x0 r_3 z_59) := by
  unfold fn_X3_reckon_B53
  exact (lkp_fn_X3_reckon_B58 K h_z_59 g_h0)
theorem lkp_fn_X3_reckon_B19 {F : Nat} {sh : Nat → Nat × Nat} {n : Nat} {h0 : Nat} {x0 : Int32} {z_1 : St} (K : Kp Q G) (h_z_1 : Q z_1) (g_h0 : G h0) : LkP Q (fn_X3_reckon_B19 F sh n h0 x0 z_1) := by
  unfold fn_X3_reckon_B19
  exact (LkP.xg (LkP.xc (lkp_fn_X3_take K h_z_1 g_h0) (fun z_2 r_3 h_z_2 => (LkP.xc (lkp_fn_X3_isNumber K h_z_2) (fun z_6 r_7 h_z_6 => (LkP.ite (lkp_fn_X3_reckon_B63 K h_z_6 g_h0) (LkP.ite (lkp_fn_X3_reckon_B63 K h_z_6 g_h0) (LkP.ite (LkP.ite (lkp_fn_X3_reckon_B53 K h_z_6 g_h0) (lkp_fn_X3_reckon_B58 K h_z_6 g_h0)) (lkp_fn_X3_reckon_B53 K h_z_6 g_h0)))))))))
theorem lkp_fn_X3_reckon_B12 {F : Nat} {sh : Nat → Nat × Nat} {n : Nat} {h0 : Nat} {x0 : Int32} {z_62 : St} (K : Kp Q G) (h_z_62 : Q z_62) (g_h0 : G h0) : LkP Q (fn_X3_reckon_B12 F sh n h0 x0 z_62) := by
  unfold fn_X3_reckon_B12
  exact (LkP.xg (LkP.xc (lkp_fn_X3_takeOnly K h_z_62 g_h0) (fun z_63 _ h_z_63 => (lkp_fn_X3_reckon_B19 K h_z_63 g_h0))))
theorem lkp_fn_X3_reckon {F : Nat} {sh : Nat → Nat × Nat} {n : Nat} {z : St} {h0 : Nat} {x0 : Int32} (K : Kp Q G) (h_z : Q z) (g_h0 : G h0) : LkP Q (fn_X3_reckon F sh n z h0 x0) := by
  unfold fn_X3_reckon
  exact (LkP.ite (lkp_fn_X3_reckon_B12 K h_z g_h0) (LkP.ite (lkp_fn_X3_reckon_B12 K h_z g_h0) (lkp_fn_X3_reckon_B19 K h_z g_h0)))
theorem lkp_fn_X3_lineUp_B177 {F : Nat} {sh : Nat → Nat × Nat} {n : Nat} {x0 : Int32} {h0 : Nat} {r_4 : Int64} {z_18 : St} (K : Kp Q G) (h_z_18 : Q z_18) (g_h0 : G h0) : LkP Q (fn_X3_lineUp_B177 F sh n x0 h0 r_4 z_18) := by
  unfold fn_X3_lineUp_B177
  exact (LkP.ite (LkP.xc (lkp_fn_X3_put K h_z_18 g_h0) (fun z_35 _ h_z_35 => (LkP.ret h_z_35))) (LkP.ite (LkP.xc (lkp_fn_X3_put K h_z_18 g_h0) (fun z_33 _ h_z_33 => (LkP.ret h_z_33))) (LkP.ite (LkP.ret h_z_18) (LkP.ite (LkP.xc (lkp_fn_X5_prefixed K h_z_18) (fun z_28 r_29 h_z_28 => (LkP.xc (lkp_fn_X3_putReference K h_z_28 g_h0) (fun z_31 _ h_z_31 => (LkP.ret h_z_31))))) (LkP.xc (lkp_fn_X5_prefixed K h_z_18) (fun z_23 r_24 h_z_23 => (LkP.xc (lkp_fn_X3_putReference K h_z_23 g_h0) (fun z_26 _ h_z_26 => (LkP.ret h_z_26)))))))))
theorem lkp_fn_X3_lineUp_B151 {F : Nat} {sh : Nat → Nat × Nat} {n : Nat} {h0 : Nat} {r_8 : Int64} {x0 : Int32} {r_4 : Int64} {z_15 : St} {p_14 : Int32} (K : Kp Q G) (h_z_15 : Q z_15) (g_h0 : G h0) : LkP Q (fn_X3_lineUp_B151 F sh n h0 r_8 x0 r_4 z_15 p_14) := by
  unfold fn_X3_lineUp_B151
  exact (LkP.xc (lkp_fn_X3_takeReferenceTo K h_z_15 g_h0) (fun z_16 _ h_z_16 => (LkP.ite (lkp_fn_X3_lineUp_B177 K h_z_16 g_h0) (LkP.xc (lkp_fn_X3_isSole K h_z_16 g_h0) (fun z_38 r_39 h_z_38 => (LkP.ite (LkP.xc (lkp_fn_X3_fail K h_z_38 g_h0) (fun z_42 _ h_z_42 => (lkp_fn_X3_lineUp_B177 K h_z_42 g_h0))) (lkp_fn_X3_lineUp_B177 K h_z_38 g_h0)))))))
theorem lkp_fn_X3_lineUp_B137 {F : Nat} {sh : Nat → Nat × Nat} {n : Nat} {x0 : Int32} {h0 : Nat} {r_8 : Int64} {r_4 : Int64} {z_13 : St} (K : Kp Q G) (h_z_13 : Q z_13) (g_h0 : G h0) : LkP Q (fn_X3_lineUp_B137 F sh n x0 h0 r_8 r_4 z_13) := by
  unfold fn_X3_lineUp_B137
  exact (LkP.ite (lkp_fn_X3_lineUp_B151 K h_z_13 g_h0) (lkp_fn_X3_lineUp_B151 K h_z_13 g_h0))
theorem lkp_fn_X3_lineUp_B109 {F : Nat} {sh : Nat → Nat × Nat} {n : Nat} {x0 : Int32} {h0 : Nat} {r_8 : Int64} {r_4 : Int64} {z_12 : St} (K : Kp Q G) (h_z_12 : Q z_12) (g_h0 : G h0) : LkP Q (fn_X3_lineUp_B109 F sh n x0 h0 r_8 r_4 z_12) := by
  unfold fn_X3_lineUp_B109
  exact (LkP.ite (LkP.xc (lkp_fn_X3_takeOnly K h_z_12 g_h0) (fun z_49 _ h_z_49 => (lkp_fn_X3_lineUp_B137 K h_z_49 g_h0))) (LkP.ite (LkP.xc (lkp_fn_X3_takeOnly K h_z_12 g_h0) (fun z_47 _ h_z_47 => (lkp_fn_X3_lineUp_B137 K h_z_47 g_h0))) (lkp_fn_X3_lineUp_B137 K h_z_12 g_h0)))
theorem lkp_fn_X3_lineUp_B102 {F : Nat} {sh : Nat → Nat × Nat} {n : Nat} {h0 : Nat} {x0 : Int32} {r_8 : Int64} {r_4 : Int64} {z_51 : St} (K : Kp Q G) (h_z_51 : Q z_51) (g_h0 : G h0) : LkP Q (fn_X3_lineUp_B102 F sh n h0 x0 r_8 r_4 z_51) := by
  unfold fn_X3_lineUp_B102
  exact (LkP.xc (lkp_fn_X3_takeOnly K h_z_51 g_h0) (fun z_52 _ h_z_52 => (lkp_fn_X3_lineUp_B109 K h_z_52 g_h0)))
theorem lkp_fn_X3_lineUp_L28 {F : Nat} {sh : Nat → Nat × Nat} {n : Nat} {x2 : Int32} {h0 : Nat} {r_8 : Int64} {r_4 : Int64} (K : Kp Q G) (g_h0 : G h0) : ∀ (f : Nat) (v1 : St) (v2 : Int32), Q v1 → LkP Q (fn_X3_lineUp_L28 F sh n x2 h0 r_8 r_4 f v1 v2) := by
  intro f
  induction f with
  | zero => intros; exact LkP.none
  | succ f_69 ih =>
    intro z_68 p_67 h_z_68
    exact (LkP.ite (LkP.xc (lkp_fn_X3_put K h_z_68 g_h0) (fun z_71 _ h_z_71 => (LkP.ret h_z_71))) (LkP.xc (lkp_fn_X3_takeOnly K h_z_68 g_h0) (fun z_73 _ h_z_73 => (ih _ _ h_z_73 ))))
theorem lkp_fn_X3_lineUp {F : Nat} {sh : Nat → Nat × Nat} {n : Nat} {z : St} {h0 : Nat} {x0 : Int32} {x1 : Int32} {x2 : Int32} (K : Kp Q G) (h_z : Q z) (g_h0 : G h0) : LkP Q (fn_X3_lineUp F sh n z h0 x0 x1 x2) := by
  unfold fn_X3_lineUp
  exact (LkP.xg (LkP.xl (fun k_2 q => have g_k_2 := K.2.2.2.2.2 _ _ _ _ h_z g_h0 q; (LkP.xg (LkP.xc (lkp_fn_X5_elementType K h_z g_k_2) (fun z_3 r_4 h_z_3 => (LkP.xc (lkp_fn_X5_prefixed K h_z_3) (fun z_7 r_8 h_z_7 => (LkP.ite (lkp_fn_X3_lineUp_L28 K g_h0 _ _ _ h_z_7 ) (LkP.ite (LkP.xc (lkp_fn_X5_prefixed K h_z_7) (fun z_57 r_58 h_z_57 => (LkP.xc (lkp_fn_X3_takeOnly K h_z_57 g_h0) (fun z_60 _ h_z_60 => (LkP.xc (lkp_fn_X5_prefixed K h_z_60) (fun z_62 r_63 h_z_62 => (LkP.xc (lkp_fn_X3_put K h_z_62 g_h0) (fun z_65 _ h_z_65 => (LkP.ret h_z_65))))))))) (LkP.ite (lkp_fn_X3_lineUp_B102 K h_z_7 g_h0) (LkP.ite (lkp_fn_X3_lineUp_B102 K h_z_7 g_h0) (LkP.ite (lkp_fn_X3_lineUp_B102 K h_z_7 g_h0) (lkp_fn_X3_lineUp_B109 K h_z_7 g_h0))))))))))))))
theorem lkp_fn_X18_ask_B202 {F : Nat} {sh : Nat → Nat × Nat} {n : Nat} {k_36 : Nat} {v_7 : Int32} {p_28 : Int32} {h0 : Nat} {z_38 : St} {p_37 : Int64} (K : Kp Q G) (h_z_38 : Q z_38) (g_k_36 : G k_36) (g_h0 : G h0) : LkP Q (fn_X18_ask_B202 F sh n k_36 v_7 p_28 h0 z_38 p_37) := by
  unfold fn_X18_ask_B202
  exact (LkP.xg (LkP.lts (K.2.1 _ _ _ _ h_z_38 g_k_36) (fun z_41 h_z_41 => (LkP.ite (LkP.ret h_z_41) (LkP.xl (fun k_43 q => have g_k_43 := K.2.2.2.2.2 _ _ _ _ h_z_41 g_h0 q; (LkP.xc (lkp_fn_X18_load K h_z_41 g_h0) (fun z_44 r_45 h_z_44 => (LkP.xg (LkP.lts (K.1 _ _ _ _ h_z_44 g_k_43) (fun z_49 h_z_49 => (LkP.ret h_z_49))))))))))))
theorem lkp_fn_X18_ask_B179 {F : Nat} {sh : Nat → Nat × Nat} {n : Nat} {k_30 : Nat} {v_7 : Int32} {h0 : Nat} {p_26 : Int32} {p_28 : Int32} {z_32 : St} {p_31 : Int32} (K : Kp Q G) (h_z_32 : Q z_32) (g_k_30 : G k_30) (g_h0 : G h0) : LkP Q (fn_X18_ask_B179 F sh n k_30 v_7 h0 p_26 p_28 z_32 p_31) := by
  unfold fn_X18_ask_B179
  exact (LkP.xg (LkP.lts (K.1 _ _ _ _ h_z_32 g_k_30) (fun z_35 h_z_35 => (LkP.xl (fun k_36 q => have g_k_36 := K.2.2.2.2.2 _ _ _ _ h_z_35 g_h0 q; (LkP.ite (lkp_fn_X18_ask_B202 K h_z_35 g_k_36 g_h0) (LkP.xl (fun k_51 q => have g_k_51 := K.2.2.2.2.2 _ _ _ _ h_z_35 g_h0 q; (LkP.xg (lkp_fn_X18_ask_B202 K h_z_35 g_k_36 g_h0))))))))))
theorem lkp_fn_X18_ask_B174 {F : Nat} {sh : Nat → Nat × Nat} {n : Nat} {k_30 : Nat} {v_7 : Int32} {h0 : Nat} {p_26 : Int32} {p_28 : Int32} {z_53 : St} (K : Kp Q G) (h_z_53 : Q z_53) (g_k_30 : G k_30) (g_h0 : G h0) : LkP Q (fn_X18_ask_B174 F sh n k_30 v_7 h0 p_26 p_28 z_53) := by
  unfold fn_X18_ask_B174
  exact (lkp_fn_X18_ask_B179 K h_z_53 g_k_30 g_h0)
theorem lkp_fn_X18_ask_B156 {F : Nat} {sh : Nat → Nat × Nat} {n : Nat} {h0 : Nat} {p_26 : Int32} {v_7 : Int32} {z_29 : St} {p_28 : Int32} (K : Kp Q G) (h_z_29 : Q z_29) (g_h0 : G h0) : LkP Q (fn_X18_ask_B156 F sh n h0 p_26 v_7 z_29 p_28) := by
  unfold fn_X18_ask_B156
  exact (LkP.xl (fun k_30 q => have g_k_30 := K.2.2.2.2.2 _ _ _ _ h_z_29 g_h0 q; (LkP.ite (lkp_fn_X18_ask_B174 K h_z_29 g_k_30 g_h0) (LkP.ite (lkp_fn_X18_ask_B179 K h_z_29 g_k_30 g_h0) (lkp_fn_X18_ask_B174 K h_z_29 g_k_30 g_h0)))))
theorem lkp_fn_X18_ask_B138 {F : Nat} {sh : Nat → Nat × Nat} {n : Nat} {x0 : Int32} {h0 : Nat} {x1 : Int64} {x2 : Int32} {v_7 : Int32} {z_27 : St} {p_26 : Int32} (K : Kp Q G) (h_z_27 : Q z_27) (g_h0 : G h0) : LkP Q (fn_X18_ask_B138 F sh n x0 h0 x1 x2 v_7 z_27 p_26) := by
  unfold fn_X18_ask_B138
  exact (LkP.ite (LkP.xc (lkp_fn_X18_findResource K h_z_27 g_h0) (fun z_57 r_58 h_z_57 => (lkp_fn_X18_ask_B156 K h_z_57 g_h0))) (lkp_fn_X18_ask_B156 K h_z_27 g_h0))
theorem lkp_fn_X18_ask_B50 {F : Nat} {sh : Nat → Nat × Nat} {n : Nat} {p_1 : Int32} {ko3 : St → Int32 → Option (St × Int32)} {z_68 : St} (K : Kp Q G) (h_z_68 : Q z_68) (hko_ko3 : ∀ (w0 : St) (w1 : Int32), Q w0 → LkP Q (ko3 w0 w1)) : LkP Q (fn_X18_ask_B50 F sh n p_1 ko3 z_68) := by
  unfold fn_X18_ask_B50
  exact (hko_ko3 _ _ h_z_68 )
theorem lkp_fn_X18_ask_L3 {F : Nat} {sh : Nat → Nat × Nat} {n : Nat} {h0 : Nat} {x0 : Int32} {x1 : Int64} {x2 : Int32} (K : Kp Q G) (g_h0 : G h0) : ∀ (f : Nat) (v1 : St) (v2 : Int32), Q v1 → LkP Q (fn_X18_ask_L3 F sh n h0 x0 x1 x2 f v1 v2) := by
  intro f
  induction f with
  | zero => intros; exact LkP.none
  | succ f_3 ih =>
    intro z_2 p_1 h_z_2
    exact (LkP.xg (LkP.ite (LkP.ite (LkP.xc (lkp_fn_X18_end K h_z_2 g_h0) (fun z_64 _ h_z_64 => (LkP.ret h_z_64))) (LkP.ltv (fun v_7 => (LkP.lts (K.1 _ _ _ _ h_z_2 g_h0) (fun z_9 h_z_9 => (LkP.xl (fun k_10 q => have g_k_10 := K.2.2.2.2.2 _ _ _ _ h_z_9 g_h0 q; (LkP.xg (LkP.lts (K.1 _ _ _ _ h_z_9 g_k_10) (fun z_13 h_z_13 => (LkP.xl (fun k_14 q => have g_k_14 := K.2.2.2.2.2 _ _ _ _ h_z_13 g_h0 q; (LkP.xg (LkP.lts (K.2.1 _ _ _ _ h_z_13 g_k_14) (fun z_17 h_z_17 => (LkP.xl (fun k_18 q => have g_k_18 := K.2.2.2.2.2 _ _ _ _ h_z_17 g_h0 q; (LkP.xg (LkP.lts (K.1 _ _ _ _ h_z_17 g_k_18) (fun z_21 h_z_21 => (LkP.xl (fun k_22 q => have g_k_22 := K.2.2.2.2.2 _ _ _ _ h_z_21 g_h0 q; (LkP.xg (LkP.lts (K.1 _ _ _ _ h_z_21 g_k_22) (fun z_25 h_z_25 => (LkP.ite (LkP.xc (lkp_fn_X18_findAccount K h_z_25 g_h0) (fun z_61 r_62 h_z_61 => (lkp_fn_X18_ask_B138 K h_z_61 g_h0))) (lkp_fn_X18_ask_B138 K h_z_25 g_h0))))))))))))))))))))))))))) (LkP.xl (fun k_66 q => have g_k_66 := K.2.2.2.2.2 _ _ _ _ h_z_2 g_h0 q; (LkP.xg (LkP.ite (LkP.xl (fun k_70 q => have g_k_70 := K.2.2.2.2.2 _ _ _ _ h_z_2 g_h0 q; (LkP.xg (LkP.ite (LkP.xl (fun k_73 q => have g_k_73 := K.2.2.2.2.2 _ _ _ _ h_z_2 g_h0 q; (LkP.xg (LkP.ite (LkP.ret h_z_2) (lkp_fn_X18_ask_B50 K h_z_2 (fun z9 q5 hk_z9 => (ih _ _ hk_z9 ))))))) (lkp_fn_X18_ask_B50 K h_z_2 (fun z9 q5 hk_z9 => (ih _ _ hk_z9 ))))))) (lkp_fn_X18_ask_B50 K h_z_2 (fun z9 q5 hk_z9 => (ih _ _ hk_z9 )))))))))
theorem lkp_fn_X18_ask {F : Nat} {sh : Nat → Nat × Nat} {n : Nat} {z : St} {h0 : Nat} {x0 : Int32} {x1 : Int64} {x2 : Int32} (K : Kp Q G) (h_z : Q z) (g_h0 : G h0) : LkP Q (fn_X18_ask F sh n z h0 x0 x1 x2) := by
  unfold fn_X18_ask
  exact (lkp_fn_X18_ask_L3 K g_h0 _ _ _ h_z )
theorem lkp_fn_X3_useLocal_B188 {F : Nat} {sh : Nat → Nat × Nat} {n : Nat} {h0 : Nat} {v_4 : Int64} {z_12 : St} {k_15 : Nat} {x1 : Int32} {x0 : Int32} {z_18 : St} {p_17 : Int32} (K : Kp Q G) (h_z_12 : Q z_12) (h_z_18 : Q z_18) (g_h0 : G h0) (g_k_15 : G k_15) : LkP Q (fn_X3_useLocal_B188 F sh n h0 v_4 z_12 k_15 x1 x0 z_18 p_17) := by
  unfold fn_X3_useLocal_B188
  exact (LkP.xc (lkp_fn_X3_putReference K h_z_18 g_h0) (fun z_19 _ h_z_19 => (LkP.ite (LkP.xc (lkp_fn_X3_setLocal K h_z_19 g_h0) (fun z_22 _ h_z_22 => (LkP.lts (K.2.1 _ _ _ _ h_z_22 g_h0) (fun z_25 h_z_25 => (LkP.ret h_z_25))))) (LkP.ret h_z_19))))
theorem lkp_fn_X3_useLocal_B122 {F : Nat} {sh : Nat → Nat × Nat} {n : Nat} {h0 : Nat} {x0 : Int32} {x1 : Int32} {v_4 : Int64} {z_12 : St} (K : Kp Q G) (h_z_12 : Q z_12) (g_h0 : G h0) : LkP Q (fn_X3_useLocal_B122 F sh n h0 x0 x1 v_4 z_12) := by
  unfold fn_X3_useLocal_B122
  exact (LkP.ite (LkP.ite (LkP.xc (lkp_fn_X3_setLocal K h_z_12 g_h0) (fun z_27 _ h_z_27 => (LkP.lts (K.2.1 _ _ _ _ h_z_27 g_h0) (fun z_30 h_z_30 => (LkP.ret h_z_30))))) (LkP.xl (fun k_15 q => have g_k_15 := K.2.2.2.2.2 _ _ _ _ h_z_12 g_h0 q; (LkP.xg (LkP.ite (lkp_fn_X3_useLocal_B188 K h_z_12 h_z_12 g_h0 g_k_15) (lkp_fn_X3_useLocal_B188 K h_z_12 h_z_12 g_h0 g_k_15)))))) (LkP.ret h_z_12))
theorem lkp_fn_X3_useLocal_B110 {F : Nat} {sh : Nat → Nat × Nat} {n : Nat} {h0 : Nat} {x1 : Int32} {x0 : Int32} {v_4 : Int64} {z_33 : St} {p_32 : Int32} (K : Kp Q G) (h_z_33 : Q z_33) (g_h0 : G h0) : LkP Q (fn_X3_useLocal_B110 F sh n h0 x1 x0 v_4 z_33 p_32) := by
  unfold fn_X3_useLocal_B110
  exact (LkP.xc (lkp_fn_X3_isLive K h_z_33 g_h0) (fun z_34 r_35 h_z_34 => (LkP.ite (lkp_fn_X3_useLocal_B122 K h_z_34 g_h0) (LkP.xc (lkp_fn_X3_fail K h_z_34 g_h0) (fun z_38 _ h_z_38 => (lkp_fn_X3_useLocal_B122 K h_z_38 g_h0))))))
theorem lkp_fn_X3_useLocal_B90 {F : Nat} {sh : Nat → Nat × Nat} {n : Nat} {p_8 : Int32} {h0 : Nat} {x0 : Int32} {x1 : Int32} {v_4 : Int64} {z_11 : St} (K : Kp Q G) (h_z_11 : Q z_11) (g_h0 : G h0) : LkP Q (fn_X3_useLocal_B90 F sh n p_8 h0 x0 x1 v_4 z_11) := by
  unfold fn_X3_useLocal_B90
  exact (LkP.ite (lkp_fn_X3_useLocal_B122 K h_z_11 g_h0) (LkP.ite (lkp_fn_X3_useLocal_B110 K h_z_11 g_h0) (lkp_fn_X3_useLocal_B110 K h_z_11 g_h0)))
theorem lkp_fn_X3_useLocal_B70 {F : Nat} {sh : Nat → Nat × Nat} {n : Nat} {x0 : Int32} {h0 : Nat} {v_4 : Int64} {p_8 : Int32} {x1 : Int32} {z_10 : St} (K : Kp Q G) (h_z_10 : Q z_10) (g_h0 : G h0) : LkP Q (fn_X3_useLocal_B70 F sh n x0 h0 v_4 p_8 x1 z_10) := by
  unfold fn_X3_useLocal_B70
  exact (LkP.ite (LkP.xc (lkp_fn_X3_has K h_z_10 g_h0) (fun z_42 r_43 h_z_42 => (LkP.ite (LkP.xc (lkp_fn_X3_fail K h_z_42 g_h0) (fun z_46 _ h_z_46 => (lkp_fn_X3_useLocal_B90 K h_z_46 g_h0))) (lkp_fn_X3_useLocal_B90 K h_z_42 g_h0)))) (lkp_fn_X3_useLocal_B90 K h_z_10 g_h0))
theorem lkp_fn_X3_useLocal_B19 {F : Nat} {sh : Nat → Nat × Nat} {n : Nat} {x0 : Int32} {h0 : Nat} {v_4 : Int64} {x1 : Int32} {z_9 : St} {p_8 : Int32} (K : Kp Q G) (h_z_9 : Q z_9) (g_h0 : G h0) : LkP Q (fn_X3_useLocal_B19 F sh n x0 h0 v_4 x1 z_9 p_8) := by
  unfold fn_X3_useLocal_B19
  exact (LkP.ite (LkP.xc (lkp_fn_X3_takeOnly K h_z_9 g_h0) (fun z_55 _ h_z_55 => (LkP.xc (lkp_fn_X3_isThere K h_z_55 g_h0) (fun z_57 r_58 h_z_57 => (LkP.ite (lkp_fn_X3_useLocal_B70 K h_z_57 g_h0) (LkP.xc (lkp_fn_X3_has K h_z_57 g_h0) (fun z_61 r_62 h_z_61 => (LkP.ite (LkP.xc (lkp_fn_X3_fail K h_z_61 g_h0) (fun z_65 _ h_z_65 => (lkp_fn_X3_useLocal_B70 K h_z_65 g_h0))) (lkp_fn_X3_useLocal_B70 K h_z_61 g_h0))))))))) (LkP.xc (lkp_fn_X3_isThere K h_z_9 g_h0) (fun z_49 r_50 h_z_49 => (LkP.ite (LkP.xc (lkp_fn_X3_fail K h_z_49 g_h0) (fun z_53 _ h_z_53 => (lkp_fn_X3_useLocal_B70 K h_z_53 g_h0))) (lkp_fn_X3_useLocal_B70 K h_z_49 g_h0)))))
theorem lkp_fn_X3_useLocal {F : Nat} {sh : Nat → Nat × Nat} {n : Nat} {z : St} {h0 : Nat} {x0 : Int32} {x1 : Int32} (K : Kp Q G) (h_z : Q z) (g_h0 : G h0) : LkP Q (fn_X3_useLocal F sh n z h0 x0 x1) := by
  unfold fn_X3_useLocal
  exact (LkP.xg (LkP.xl (fun k_2 q => have g_k_2 := K.2.2.2.2.2 _ _ _ _ h_z g_h0 q; (LkP.xg (LkP.ltv (fun v_4 => (LkP.xc (lkp_fn_X5_isReference K h_z) (fun z_5 r_6 h_z_5 => (LkP.ite (lkp_fn_X3_useLocal_B19 K h_z_5 g_h0) (lkp_fn_X3_useLocal_B19 K h_z_5 g_h0))))))))))
theorem lkp_fn_X4_hash_L176 {F : Nat} {sh : Nat → Nat × Nat} {n : Nat} {h0 : Nat} {r_45 : Int32} (K : Kp Q G) (g_h0 : G h0) : ∀ (f : Nat) (v1 : St) (v2 : Int32), Q v1 → LkP Q (fn_X4_hash_L176 F sh n h0 r_45 f v1 v2) := by
  intro f
  induction f with
  | zero => intros; exact LkP.none
  | succ f_50 ih =>
    intro z_49 p_48 h_z_49
    exact (LkP.ite (LkP.xc (lkp_fn_X4_push K h_z_49 g_h0) (fun z_52 _ h_z_52 => (LkP.ret h_z_52))) (LkP.xl (fun k_54 q => have g_k_54 := K.2.2.2.2.2 _ _ _ _ h_z_49 g_h0 q; (LkP.xg (LkP.xc (lkp_fn_X0_part K h_z_49 g_k_54) (fun z_55 r_56 h_z_55 => (LkP.ltv (fun v_59 => (LkP.xl (fun k_60 q => have g_k_60 := K.2.2.2.2.2 _ _ _ _ h_z_55 g_h0 q; (LkP.xl (fun k_61 q => have g_k_61 := K.2.2.2.2.2 _ _ _ _ h_z_55 g_h0 q; (LkP.xg (LkP.xc (lkp_fn_X1_make K h_z_55 g_k_61) (fun z_62 r_63 h_z_62 => (LkP.xg (LkP.xc (lkp_fn_X1_prepend K h_z_62 g_k_60) (fun z_66 _ h_z_66 => (ih _ _ h_z_66 )))))))))))))))))))
theorem lkp_fn_X4_hash_L127 {F : Nat} {sh : Nat → Nat × Nat} {n : Nat} {v_15 : Int32} {h0 : Nat} (K : Kp Q G) (g_h0 : G h0) : ∀ (f : Nat) (v1 : St) (v2 : Int32), Q v1 → LkP Q (fn_X4_hash_L127 F sh n v_15 h0 f v1 v2) := by
  intro f
  induction f with
  | zero => intros; exact LkP.none
  | succ f_37 ih =>
    intro z_36 p_35 h_z_36
    exact (LkP.ite (LkP.xl (fun k_39 q => have g_k_39 := K.2.2.2.2.2 _ _ _ _ h_z_36 g_h0 q; (LkP.xg (LkP.xc (lkp_fn_X0_finish K h_z_36 g_k_39) (fun z_40 _ h_z_40 => (LkP.xl (fun k_43 q => have g_k_43 := K.2.2.2.2.2 _ _ _ _ h_z_40 g_h0 q; (LkP.xg (LkP.xc (lkp_fn_X1_make K h_z_40 g_k_43) (fun z_44 r_45 h_z_44 => (lkp_fn_X4_hash_L176 K g_h0 _ _ _ h_z_44 ))))))))))) (LkP.xl (fun k_69 q => have g_k_69 := K.2.2.2.2.2 _ _ _ _ h_z_36 g_h0 q; (LkP.xl (fun k_70 q => have g_k_70 := K.2.2.2.2.2 _ _ _ _ h_z_36 g_h0 q; (LkP.xg (LkP.xg (LkP.xc (lkp_fn_X0_put K h_z_36 g_k_69) (fun z_72 _ h_z_72 => (ih _ _ h_z_72 ))))))))))
theorem lkp_fn_X4_hash_L78 {F : Nat} {sh : Nat → Nat × Nat} {n : Nat} {h0 : Nat} {v_15 : Int32} (K : Kp Q G) (g_h0 : G h0) : ∀ (f : Nat) (v1 : St) (v2 : Int32) (v3 : Int32), Q v1 → LkP Q (fn_X4_hash_L78 F sh n h0 v_15 f v1 v2 v3) := by
  intro f
  induction f with
  | zero => intros; exact LkP.none
  | succ f_29 ih =>
    intro z_28 p_26 p_27 h_z_28
    exact (LkP.ite (LkP.xl (fun k_31 q => have g_k_31 := K.2.2.2.2.2 _ _ _ _ h_z_28 g_h0 q; (LkP.xg (LkP.xc (lkp_fn_X0_start K h_z_28 g_k_31) (fun z_32 _ h_z_32 => (lkp_fn_X4_hash_L127 K g_h0 _ _ _ h_z_32 )))))) (LkP.xl (fun k_75 q => have g_k_75 := K.2.2.2.2.2 _ _ _ _ h_z_28 g_h0 q; (LkP.xl (fun k_76 q => have g_k_76 := K.2.2.2.2.2 _ _ _ _ h_z_28 g_h0 q; (LkP.xg (LkP.xl (fun k_78 q => have g_k_78 := K.2.2.2.2.2 _ _ _ _ h_z_28 g_k_76 q; (LkP.xg (LkP.xg (LkP.lts (K.1 _ _ _ _ h_z_28 g_k_75) (fun z_82 h_z_82 => (LkP.xl (fun k_83 q => have g_k_83 := K.2.2.2.2.2 _ _ _ _ h_z_82 g_h0 q; (LkP.xg (LkP.xl (fun k_85 q => have g_k_85 := K.2.2.2.2.2 _ _ _ _ h_z_82 g_k_83 q; (LkP.xg (LkP.ltv (fun v_87 => (ih _ _ _ h_z_82 )))))))))))))))))))))
theorem lkp_fn_X4_hash {F : Nat} {sh : Nat → Nat × Nat} {n : Nat} {z : St} {h0 : Nat} (K : Kp Q G) (h_z : Q z) (g_h0 : G h0) : LkP Q (fn_X4_hash F sh n z h0) := by
  unfold fn_X4_hash
  exact (LkP.xg (LkP.xc (lkp_fn_X4_pop K h_z g_h0) (fun z_1 r_2 h_z_1 => (LkP.xl (fun k_5 q => have g_k_5 := K.2.2.2.2.2 _ _ _ _ h_z_1 g_h0 q; (LkP.xg (LkP.xl (fun k_7 q => have g_k_7 := K.2.2.2.2.2 _ _ _ _ h_z_1 g_k_5 q; (LkP.xg (LkP.ite (LkP.xl (fun k_10 q => have g_k_10 := K.2.2.2.2.2 _ _ _ _ h_z_1 g_h0 q; (LkP.xg (LkP.xl (fun k_12 q => have g_k_12 := K.2.2.2.2.2 _ _ _ _ h_z_1 g_k_10 q; (LkP.xg (LkP.ltv (fun v_14 => (LkP.ltv (fun v_15 => (LkP.xc (lkp_fn_X4_pay K h_z_1 g_h0) (fun z_16 r_17 h_z_16 => (LkP.ite (LkP.ret h_z_16) (LkP.xl (fun k_20 q => have g_k_20 := K.2.2.2.2.2 _ _ _ _ h_z_16 g_h0 q; (LkP.xg (LkP.xl (fun k_22 q => have g_k_22 := K.2.2.2.2.2 _ _ _ _ h_z_16 g_k_20 q; (LkP.xg (LkP.ltv (fun v_24 => (LkP.ltv (fun v_25 => (lkp_fn_X4_hash_L78 K g_h0 _ _ _ _ h_z_16 )))))))))))))))))))))))) (LkP.xl (fun k_88 q => have g_k_88 := K.2.2.2.2.2 _ _ _ _ h_z_1 g_h0 q; (LkP.xg (LkP.lts (K.1 _ _ _ _ h_z_1 g_k_88) (fun z_91 h_z_91 => (LkP.ret h_z_91))))))))))))))))
theorem lkp_fn_X18_onLocal_B106 {F : Nat} {sh : Nat → Nat × Nat} {n : Nat} {h0 : Nat} {x0 : Int32} {r_2 : Int32} {z_8 : St} (K : Kp Q G) (h_z_8 : Q z_8) (g_h0 : G h0) : LkP Q (fn_X18_onLocal_B106 F sh n h0 x0 r_2 z_8) := by
  unfold fn_X18_onLocal_B106
  exact (LkP.xc (lkp_fn_X18_goesOn K h_z_8 g_h0) (fun z_9 r_10 h_z_9 => (LkP.ite (LkP.ret h_z_9) (LkP.ite (LkP.xl (fun k_29 q => have g_k_29 := K.2.2.2.2.2 _ _ _ _ h_z_9 g_h0 q; (LkP.xg (LkP.ite (LkP.xl (fun k_32 q => have g_k_32 := K.2.2.2.2.2 _ _ _ _ h_z_9 g_h0 q; (LkP.xl (fun k_33 q => have g_k_33 := K.2.2.2.2.2 _ _ _ _ h_z_9 g_h0 q; (LkP.xg (LkP.xg (LkP.xc (lkp_fn_X15_sizeOf K  _ _ _ _ h_z_9 g_k_32) (fun z_35 r_36 h_z_35 => (LkP.xc (lkp_fn_X18_spend K h_z_35 g_h0) (fun z_39 r_40 h_z_39 => (LkP.ite (LkP.ret h_z_39) (LkP.xl (fun k_43 q => have g_k_43 := K.2.2.2.2.2 _ _ _ _ h_z_39 g_h0 q; (LkP.xl (fun k_44 q => have g_k_44 := K.2.2.2.2.2 _ _ _ _ h_z_39 g_h0 q; (LkP.xg (LkP.xg (LkP.xc (lkp_fn_X15_copy K  _ _ _ _ h_z_39 g_k_43) (fun z_46 r_47 h_z_46 => (LkP.xc (lkp_fn_X18_push K h_z_46 g_h0) (fun z_50 _ h_z_50 => (LkP.ret h_z_50)))))))))))))))))))))) (LkP.xc (lkp_fn_X18_spend K h_z_9 g_h0) (fun z_52 r_53 h_z_52 => (LkP.ite (LkP.ret h_z_52) (LkP.xl (fun k_56 q => have g_k_56 := K.2.2.2.2.2 _ _ _ _ h_z_52 g_h0 q; (LkP.xg (LkP.xc (lkp_fn_X18_push K h_z_52 g_h0) (fun z_58 _ h_z_58 => (LkP.ret h_z_58))))))))))))) (LkP.ite (LkP.xl (fun k_19 q => have g_k_19 := K.2.2.2.2.2 _ _ _ _ h_z_9 g_h0 q; (LkP.xg (LkP.xl (fun k_21 q => have g_k_21 := K.2.2.2.2.2 _ _ _ _ h_z_9 g_h0 q; (LkP.xg (LkP.xc (lkp_fn_X18_push K h_z_9 g_h0) (fun z_23 _ h_z_23 => (LkP.xl (fun k_25 q => have g_k_25 := K.2.2.2.2.2 _ _ _ _ h_z_23 g_h0 q; (LkP.xg (LkP.lts (K.1 _ _ _ _ h_z_23 g_k_25) (fun z_28 h_z_28 => (LkP.ret h_z_28)))))))))))))) (LkP.xl (fun k_15 q => have g_k_15 := K.2.2.2.2.2 _ _ _ _ h_z_9 g_h0 q; (LkP.xg (LkP.xc (lkp_fn_X18_push K h_z_9 g_h0) (fun z_17 _ h_z_17 => (LkP.ret h_z_17)))))))))))
theorem lkp_fn_X18_onLocal_B56 {F : Nat} {sh : Nat → Nat × Nat} {n : Nat} {h0 : Nat} {r_2 : Int32} {z_67 : St} {p_66 : Int32} (K : Kp Q G) (h_z_67 : Q z_67) (g_h0 : G h0) : LkP Q (fn_X18_onLocal_B56 F sh n h0 r_2 z_67 p_66) := by
  unfold fn_X18_onLocal_B56
  exact (LkP.xc (lkp_fn_X18_takeAny K h_z_67 g_h0) (fun z_68 r_69 h_z_68 => (LkP.xc (lkp_fn_X18_goesOn K h_z_68 g_h0) (fun z_71 r_72 h_z_71 => (LkP.ite (LkP.ret h_z_71) (LkP.xl (fun k_75 q => have g_k_75 := K.2.2.2.2.2 _ _ _ _ h_z_71 g_h0 q; (LkP.xg (LkP.lts (K.1 _ _ _ _ h_z_71 g_k_75) (fun z_78 h_z_78 => (LkP.xl (fun k_79 q => have g_k_79 := K.2.2.2.2.2 _ _ _ _ h_z_78 g_h0 q; (LkP.xg (LkP.lts (K.1 _ _ _ _ h_z_78 g_k_79) (fun z_82 h_z_82 => (LkP.ret h_z_82))))))))))))))))
theorem lkp_fn_X18_onLocal_B55 {F : Nat} {sh : Nat → Nat × Nat} {n : Nat} {h0 : Nat} {r_2 : Int32} {z_83 : St} (K : Kp Q G) (h_z_83 : Q z_83) (g_h0 : G h0) : LkP Q (fn_X18_onLocal_B55 F sh n h0 r_2 z_83) := by
  unfold fn_X18_onLocal_B55
  exact (lkp_fn_X18_onLocal_B56 K h_z_83 g_h0)
theorem lkp_fn_X18_onLocal {F : Nat} {sh : Nat → Nat × Nat} {n : Nat} {z : St} {h0 : Nat} {x0 : Int32} {x1 : Int32} (K : Kp Q G) (h_z : Q z) (g_h0 : G h0) : LkP Q (fn_X18_onLocal F sh n z h0 x0 x1) := by
  unfold fn_X18_onLocal
  exact (LkP.xg (LkP.xc (lkp_fn_X18_local K h_z g_h0) (fun z_1 r_2 h_z_1 => (LkP.ite (LkP.xc (lkp_fn_X18_goesOn K h_z_1 g_h0) (fun z_63 r_64 h_z_63 => (LkP.ite (lkp_fn_X18_onLocal_B55 K h_z_63 g_h0) (LkP.xl (fun k_85 q => have g_k_85 := K.2.2.2.2.2 _ _ _ _ h_z_63 g_h0 q; (LkP.xg (LkP.ite (lkp_fn_X18_onLocal_B55 K h_z_63 g_h0) (LkP.xl (fun k_88 q => have g_k_88 := K.2.2.2.2.2 _ _ _ _ h_z_63 g_h0 q; (LkP.xg (LkP.ite (lkp_fn_X18_onLocal_B55 K h_z_63 g_h0) (lkp_fn_X18_onLocal_B56 K h_z_63 g_h0)))))))))))) (LkP.xl (fun k_6 q => have g_k_6 := K.2.2.2.2.2 _ _ _ _ h_z_1 g_h0 q; (LkP.xg (LkP.ite (LkP.xc (lkp_fn_X18_slip K h_z_1 g_h0) (fun z_61 _ h_z_61 => (lkp_fn_X18_onLocal_B106 K h_z_61 g_h0))) (lkp_fn_X18_onLocal_B106 K h_z_1 g_h0)))))))))
theorem lkp_fn_X18_settle_B234 {F : Nat} {sh : Nat → Nat × Nat} {n : Nat} {p_11 : Int32} {ko80 : St → Int32 → Option (St × Unit)} {z_17 : St} (K : Kp Q G) (h_z_17 : Q z_17) (hko_ko80 : ∀ (w0 : St) (w1 : Int32), Q w0 → LkP Q (ko80 w0 w1)) : LkP Q (fn_X18_settle_B234 F sh n p_11 ko80 z_17) := by
  unfold fn_X18_settle_B234
  exact (hko_ko80 _ _ h_z_17 )
theorem lkp_fn_X18_settle_B223 {F : Nat} {sh : Nat → Nat × Nat} {n : Nat} {h0 : Nat} {p_11 : Int32} {ko80 : St → Int32 → Option (St × Unit)} {z_33 : St} {p_32 : Int32} (K : Kp Q G) (h_z_33 : Q z_33) (g_h0 : G h0) (hko_ko80 : ∀ (w0 : St) (w1 : Int32), Q w0 → LkP Q (ko80 w0 w1)) : LkP Q (fn_X18_settle_B223 F sh n h0 p_11 ko80 z_33 p_32) := by
  unfold fn_X18_settle_B223
  exact (LkP.xl (fun k_34 q => have g_k_34 := K.2.2.2.2.2 _ _ _ _ h_z_33 g_h0 q; (LkP.xg (LkP.xc (lkp_fn_X18_keep K h_z_33 g_h0) (fun z_36 _ h_z_36 => (lkp_fn_X18_settle_B234 K h_z_36 (fun z9 q1 hk_z9 => (hko_ko80 _ _ hk_z9 ))))))))
theorem lkp_fn_X18_settle_B153 {F : Nat} {sh : Nat → Nat × Nat} {n : Nat} {h0 : Nat} {p_11 : Int32} {k_59 : Nat} {ko80 : St → Int32 → Option (St × Unit)} {z_61 : St} {p_60 : Int32} (K : Kp Q G) (h_z_61 : Q z_61) (g_h0 : G h0) (g_k_59 : G k_59) (hko_ko80 : ∀ (w0 : St) (w1 : Int32), Q w0 → LkP Q (ko80 w0 w1)) : LkP Q (fn_X18_settle_B153 F sh n h0 p_11 k_59 ko80 z_61 p_60) := by
  unfold fn_X18_settle_B153
  exact (LkP.xl (fun k_62 q => have g_k_62 := K.2.2.2.2.2 _ _ _ _ h_z_61 g_h0 q; (LkP.xg (LkP.xg (LkP.lts (K.2.1 _ _ _ _ h_z_61 g_k_59) (fun z_66 h_z_66 => (lkp_fn_X18_settle_B234 K h_z_66 (fun z9 q1 hk_z9 => (hko_ko80 _ _ hk_z9 )))))))))
theorem lkp_fn_X18_settle_L80 {F : Nat} {sh : Nat → Nat × Nat} {n : Nat} {h0 : Nat} (K : Kp Q G) (g_h0 : G h0) : ∀ (f : Nat) (v1 : St) (v2 : Int32), Q v1 → LkP Q (fn_X18_settle_L80 F sh n h0 f v1 v2) := by
  intro f
  induction f with
  | zero => intros; exact LkP.none
  | succ f_13 ih =>
    intro z_12 p_11 h_z_12
    exact (LkP.ite (LkP.ret h_z_12) (LkP.xl (fun k_15 q => have g_k_15 := K.2.2.2.2.2 _ _ _ _ h_z_12 g_h0 q; (LkP.xg (LkP.ite (lkp_fn_X18_settle_B234 K h_z_12 (fun z9 q1 hk_z9 => (ih _ _ hk_z9 ))) (LkP.xl (fun k_19 q => have g_k_19 := K.2.2.2.2.2 _ _ _ _ h_z_12 g_h0 q; (LkP.xg (LkP.ite (lkp_fn_X18_settle_B234 K h_z_12 (fun z9 q1 hk_z9 => (ih _ _ hk_z9 ))) (LkP.xl (fun k_22 q => have g_k_22 := K.2.2.2.2.2 _ _ _ _ h_z_12 g_h0 q; (LkP.xg (LkP.ite (LkP.xl (fun k_54 q => have g_k_54 := K.2.2.2.2.2 _ _ _ _ h_z_12 g_h0 q; (LkP.xg (LkP.xc (lkp_fn_X18_findAccount K h_z_12 g_h0) (fun z_56 r_57 h_z_56 => (LkP.xl (fun k_59 q => have g_k_59 := K.2.2.2.2.2 _ _ _ _ h_z_56 g_h0 q; (LkP.ite (lkp_fn_X18_settle_B153 K h_z_56 g_h0 g_k_59 (fun z9 q1 hk_z9 => (ih _ _ hk_z9 ))) (LkP.xl (fun k_68 q => have g_k_68 := K.2.2.2.2.2 _ _ _ _ h_z_56 g_h0 q; (LkP.xg (LkP.xc (lkp_fn_X18_newAccount K h_z_56 g_h0) (fun z_70 r_71 h_z_70 => (lkp_fn_X18_settle_B153 K h_z_70 g_h0 g_k_59 (fun z9 q1 hk_z9 => (ih _ _ hk_z9 )))))))))))))))) (LkP.xl (fun k_25 q => have g_k_25 := K.2.2.2.2.2 _ _ _ _ h_z_12 g_h0 q; (LkP.xg (LkP.xl (fun k_27 q => have g_k_27 := K.2.2.2.2.2 _ _ _ _ h_z_12 g_h0 q; (LkP.xg (LkP.xc (lkp_fn_X18_findResource K h_z_12 g_h0) (fun z_29 r_30 h_z_29 => (LkP.ite (lkp_fn_X18_settle_B223 K h_z_29 g_h0 (fun z9 q1 hk_z9 => (ih _ _ hk_z9 ))) (LkP.ltv (fun v_39 => (LkP.xl (fun k_40 q => have g_k_40 := K.2.2.2.2.2 _ _ _ _ h_z_29 g_h0 q; (LkP.xl (fun k_41 q => have g_k_41 := K.2.2.2.2.2 _ _ _ _ h_z_29 g_h0 q; (LkP.xg (LkP.xg (LkP.lts (K.2.1 _ _ _ _ h_z_29 g_k_40) (fun z_45 h_z_45 => (LkP.xl (fun k_46 q => have g_k_46 := K.2.2.2.2.2 _ _ _ _ h_z_45 g_h0 q; (LkP.xl (fun k_47 q => have g_k_47 := K.2.2.2.2.2 _ _ _ _ h_z_45 g_h0 q; (LkP.xg (LkP.xg (LkP.lts (K.1 _ _ _ _ h_z_45 g_k_46) (fun z_51 h_z_51 => (LkP.lts (K.1 _ _ _ _ h_z_51 g_h0) (fun z_53 h_z_53 => (lkp_fn_X18_settle_B223 K h_z_53 g_h0 (fun z9 q1 hk_z9 => (ih _ _ hk_z9 )))))))))))))))))))))))))))))))))))))))))))))
theorem lkp_fn_X18_settle_B72 {F : Nat} {sh : Nat → Nat × Nat} {n : Nat} {p_7 : Int32} {ko16 : St → Int32 → Option (St × Unit)} {z_75 : St} (K : Kp Q G) (h_z_75 : Q z_75) (hko_ko16 : ∀ (w0 : St) (w1 : Int32), Q w0 → LkP Q (ko16 w0 w1)) : LkP Q (fn_X18_settle_B72 F sh n p_7 ko16 z_75) := by
  unfold fn_X18_settle_B72
  exact (hko_ko16 _ _ h_z_75 )
theorem lkp_fn_X18_settle_L16 {F : Nat} {sh : Nat → Nat × Nat} {n : Nat} {h0 : Nat} (K : Kp Q G) (g_h0 : G h0) : ∀ (f : Nat) (v1 : St) (v2 : Int32), Q v1 → LkP Q (fn_X18_settle_L16 F sh n h0 f v1 v2) := by
  intro f
  induction f with
  | zero => intros; exact LkP.none
  | succ f_9 ih =>
    intro z_8 p_7 h_z_8
    exact (LkP.ite (lkp_fn_X18_settle_L80 K g_h0 _ _ _ h_z_8 ) (LkP.xl (fun k_73 q => have g_k_73 := K.2.2.2.2.2 _ _ _ _ h_z_8 g_h0 q; (LkP.xg (LkP.ite (LkP.xl (fun k_77 q => have g_k_77 := K.2.2.2.2.2 _ _ _ _ h_z_8 g_h0 q; (LkP.xg (LkP.ite (LkP.xl (fun k_80 q => have g_k_80 := K.2.2.2.2.2 _ _ _ _ h_z_8 g_h0 q; (LkP.xg (LkP.xl (fun k_82 q => have g_k_82 := K.2.2.2.2.2 _ _ _ _ h_z_8 g_h0 q; (LkP.xg (LkP.xc (lkp_fn_X18_findResource K h_z_8 g_h0) (fun z_84 r_85 h_z_84 => (LkP.ite (lkp_fn_X18_settle_B72 K h_z_84 (fun z9 q1 hk_z9 => (ih _ _ hk_z9 ))) (LkP.xc (lkp_fn_X18_removeResource K h_z_84 g_h0) (fun z_88 _ h_z_88 => (lkp_fn_X18_settle_B72 K h_z_88 (fun z9 q1 hk_z9 => (ih _ _ hk_z9 )))))))))))))) (lkp_fn_X18_settle_B72 K h_z_8 (fun z9 q1 hk_z9 => (ih _ _ hk_z9 ))))))) (lkp_fn_X18_settle_B72 K h_z_8 (fun z9 q1 hk_z9 => (ih _ _ hk_z9 ))))))))
theorem lkp_fn_X18_settle {F : Nat} {sh : Nat → Nat × Nat} {n : Nat} {z : St} {h0 : Nat} (K : Kp Q G) (h_z : Q z) (g_h0 : G h0) : LkP Q (fn_X18_settle F sh n z h0) := by
  unfold fn_X18_settle
  exact (LkP.xg (LkP.xl (fun k_2 q => have g_k_2 := K.2.2.2.2.2 _ _ _ _ h_z g_h0 q; (LkP.xg (LkP.xg (LkP.lts (K.2.1 _ _ _ _ h_z g_k_2) (fun z_6 h_z_6 => (lkp_fn_X18_settle_L16 K g_h0 _ _ _ h_z_6 ))))))))
theorem lkp_fn_X2_ask_B253 {F : Nat} {sh : Nat → Nat × Nat} {n : Nat} {k_36 : Nat} {v_7 : Int32} {h0 : Nat} {p_34 : Int32} {z_38 : St} {p_37 : Int32} (K : Kp Q G) (h_z_38 : Q z_38) (g_k_36 : G k_36) (g_h0 : G h0) : LkP Q (fn_X2_ask_B253 F sh n k_36 v_7 h0 p_34 z_38 p_37) := by
  unfold fn_X2_ask_B253
  exact (LkP.xg (LkP.lts (K.1 _ _ _ _ h_z_38 g_k_36) (fun z_41 h_z_41 => (LkP.xl (fun k_42 q => have g_k_42 := K.2.2.2.2.2 _ _ _ _ h_z_41 g_h0 q; (LkP.ite (LkP.xg (LkP.lts (K.1 _ _ _ _ h_z_41 g_k_42) (fun z_46 h_z_46 => (LkP.ret h_z_46)))) (LkP.xg (LkP.lts (K.1 _ _ _ _ h_z_41 g_k_42) (fun z_49 h_z_49 => (LkP.ret h_z_49))))))))))
theorem lkp_fn_X2_ask_B237 {F : Nat} {sh : Nat → Nat × Nat} {n : Nat} {h0 : Nat} {v_7 : Int32} {z_35 : St} {p_34 : Int32} (K : Kp Q G) (h_z_35 : Q z_35) (g_h0 : G h0) : LkP Q (fn_X2_ask_B237 F sh n h0 v_7 z_35 p_34) := by
  unfold fn_X2_ask_B237
  exact (LkP.xl (fun k_36 q => have g_k_36 := K.2.2.2.2.2 _ _ _ _ h_z_35 g_h0 q; (LkP.ite (lkp_fn_X2_ask_B253 K h_z_35 g_k_36 g_h0) (lkp_fn_X2_ask_B253 K h_z_35 g_k_36 g_h0))))
theorem lkp_fn_X2_ask_B236 {F : Nat} {sh : Nat → Nat × Nat} {n : Nat} {k_58 : Nat} {v_7 : Int32} {h0 : Nat} {r_55 : Int32} {z_60 : St} {p_59 : Int32} (K : Kp Q G) (h_z_60 : Q z_60) (g_k_58 : G k_58) (g_h0 : G h0) : LkP Q (fn_X2_ask_B236 F sh n k_58 v_7 h0 r_55 z_60 p_59) := by
  unfold fn_X2_ask_B236
  exact (LkP.xg (LkP.lts (K.1 _ _ _ _ h_z_60 g_k_58) (fun z_63 h_z_63 => (lkp_fn_X2_ask_B237 K h_z_63 g_h0))))
theorem lkp_fn_X2_ask_B185 {F : Nat} {sh : Nat → Nat × Nat} {n : Nat} {k_76 : Nat} {v_7 : Int32} {h0 : Nat} {r_73 : Int32} {z_78 : St} {p_77 : Int64} (K : Kp Q G) (h_z_78 : Q z_78) (g_k_76 : G k_76) (g_h0 : G h0) : LkP Q (fn_X2_ask_B185 F sh n k_76 v_7 h0 r_73 z_78 p_77) := by
  unfold fn_X2_ask_B185
  exact (LkP.xg (LkP.lts (K.2.1 _ _ _ _ h_z_78 g_k_76) (fun z_81 h_z_81 => (lkp_fn_X2_ask_B237 K h_z_81 g_h0))))
theorem lkp_fn_X2_ask_B62 {F : Nat} {sh : Nat → Nat × Nat} {n : Nat} {p_1 : Int32} {ko3 : St → Int32 → Option (St × Int32)} {z_89 : St} (K : Kp Q G) (h_z_89 : Q z_89) (hko_ko3 : ∀ (w0 : St) (w1 : Int32), Q w0 → LkP Q (ko3 w0 w1)) : LkP Q (fn_X2_ask_B62 F sh n p_1 ko3 z_89) := by
  unfold fn_X2_ask_B62
  exact (hko_ko3 _ _ h_z_89 )
theorem lkp_fn_X2_ask_L3 {F : Nat} {sh : Nat → Nat × Nat} {n : Nat} {h0 : Nat} {x0 : Int32} {x1 : Int64} {x2 : Int32} {x3 : Int32} (K : Kp Q G) (g_h0 : G h0) : ∀ (f : Nat) (v1 : St) (v2 : Int32), Q v1 → LkP Q (fn_X2_ask_L3 F sh n h0 x0 x1 x2 x3 f v1 v2) := by
  intro f
  induction f with
  | zero => intros; exact LkP.none
  | succ f_3 ih =>
    intro z_2 p_1 h_z_2
    exact (LkP.xg (LkP.ite (LkP.ite (LkP.ltv (fun v_7 => (LkP.lts (K.1 _ _ _ _ h_z_2 g_h0) (fun z_9 h_z_9 => (LkP.xl (fun k_10 q => have g_k_10 := K.2.2.2.2.2 _ _ _ _ h_z_9 g_h0 q; (LkP.xg (LkP.lts (K.1 _ _ _ _ h_z_9 g_k_10) (fun z_13 h_z_13 => (LkP.xl (fun k_14 q => have g_k_14 := K.2.2.2.2.2 _ _ _ _ h_z_13 g_h0 q; (LkP.xg (LkP.lts (K.2.1 _ _ _ _ h_z_13 g_k_14) (fun z_17 h_z_17 => (LkP.xl (fun k_18 q => have g_k_18 := K.2.2.2.2.2 _ _ _ _ h_z_17 g_h0 q; (LkP.xg (LkP.lts (K.1 _ _ _ _ h_z_17 g_k_18) (fun z_21 h_z_21 => (LkP.xl (fun k_22 q => have g_k_22 := K.2.2.2.2.2 _ _ _ _ h_z_21 g_h0 q; (LkP.xg (LkP.lts (K.1 _ _ _ _ h_z_21 g_k_22) (fun z_25 h_z_25 => (LkP.xl (fun k_26 q => have g_k_26 := K.2.2.2.2.2 _ _ _ _ h_z_25 g_h0 q; (LkP.xg (LkP.lts (K.2.1 _ _ _ _ h_z_25 g_k_26) (fun z_29 h_z_29 => (LkP.xl (fun k_30 q => have g_k_30 := K.2.2.2.2.2 _ _ _ _ h_z_29 g_h0 q; (LkP.xg (LkP.lts (K.1 _ _ _ _ h_z_29 g_k_30) (fun z_33 h_z_33 => (LkP.ite (LkP.xl (fun k_71 q => have g_k_71 := K.2.2.2.2.2 _ _ _ _ h_z_33 g_h0 q; (LkP.xg (LkP.xc (lkp_fn_X7_findAccount K h_z_33 g_k_71) (fun z_72 r_73 h_z_72 => (LkP.xl (fun k_76 q => have g_k_76 := K.2.2.2.2.2 _ _ _ _ h_z_72 g_h0 q; (LkP.ite (LkP.xl (fun k_83 q => have g_k_83 := K.2.2.2.2.2 _ _ _ _ h_z_72 g_h0 q; (LkP.xg (LkP.xl (fun k_85 q => have g_k_85 := K.2.2.2.2.2 _ _ _ _ h_z_72 g_k_83 q; (LkP.xg (lkp_fn_X2_ask_B185 K h_z_72 g_k_76 g_h0))))))) (lkp_fn_X2_ask_B185 K h_z_72 g_k_76 g_h0))))))))) (LkP.ite (LkP.xl (fun k_53 q => have g_k_53 := K.2.2.2.2.2 _ _ _ _ h_z_33 g_h0 q; (LkP.xg (LkP.xc (lkp_fn_X7_findResource K h_z_33 g_k_53) (fun z_54 r_55 h_z_54 => (LkP.xl (fun k_58 q => have g_k_58 := K.2.2.2.2.2 _ _ _ _ h_z_54 g_h0 q; (LkP.ite (LkP.xl (fun k_65 q => have g_k_65 := K.2.2.2.2.2 _ _ _ _ h_z_54 g_h0 q; (LkP.xl (fun k_66 q => have g_k_66 := K.2.2.2.2.2 _ _ _ _ h_z_54 g_h0 q; (LkP.xg (LkP.xc (lkp_fn_X1_load K h_z_54 g_k_65 g_k_66) (fun z_67 r_68 h_z_67 => (lkp_fn_X2_ask_B236 K h_z_67 g_k_58 g_h0)))))))) (lkp_fn_X2_ask_B236 K h_z_54 g_k_58 g_h0))))))))) (lkp_fn_X2_ask_B237 K h_z_33 g_h0))))))))))))))))))))))))))))))))))))) (LkP.ret h_z_2)) (LkP.xl (fun k_87 q => have g_k_87 := K.2.2.2.2.2 _ _ _ _ h_z_2 g_h0 q; (LkP.xg (LkP.ite (LkP.xl (fun k_91 q => have g_k_91 := K.2.2.2.2.2 _ _ _ _ h_z_2 g_h0 q; (LkP.xg (LkP.ite (LkP.xl (fun k_94 q => have g_k_94 := K.2.2.2.2.2 _ _ _ _ h_z_2 g_h0 q; (LkP.xg (LkP.ite (LkP.xl (fun k_97 q => have g_k_97 := K.2.2.2.2.2 _ _ _ _ h_z_2 g_h0 q; (LkP.xg (LkP.ite (LkP.ret h_z_2) (lkp_fn_X2_ask_B62 K h_z_2 (fun z9 q6 hk_z9 => (ih _ _ hk_z9 ))))))) (lkp_fn_X2_ask_B62 K h_z_2 (fun z9 q6 hk_z9 => (ih _ _ hk_z9 ))))))) (lkp_fn_X2_ask_B62 K h_z_2 (fun z9 q6 hk_z9 => (ih _ _ hk_z9 ))))))) (lkp_fn_X2_ask_B62 K h_z_2 (fun z9 q6 hk_z9 => (ih _ _ hk_z9 )))))))))
theorem lkp_fn_X2_ask {F : Nat} {sh : Nat → Nat × Nat} {n : Nat} {z : St} {h0 : Nat} {x0 : Int32} {x1 : Int64} {x2 : Int32} {x3 : Int32} (K : Kp Q G) (h_z : Q z) (g_h0 : G h0) : LkP Q (fn_X2_ask F sh n z h0 x0 x1 x2 x3) := by
  unfold fn_X2_ask
  exact (lkp_fn_X2_ask_L3 K g_h0 _ _ _ h_z )
theorem lkp_fn_X3_enter_B279 {F : Nat} {sh : Nat → Nat × Nat} {n : Nat} {h0 : Nat} {r_40 : Int64} {r_44 : Int32} {p_29 : Int32} {ko220 : St → Int32 → Option (St × Unit)} {z_47 : St} {p_46 : Int64} (K : Kp Q G) (h_z_47 : Q z_47) (g_h0 : G h0) (hko_ko220 : ∀ (w0 : St) (w1 : Int32), Q w0 → LkP Q (ko220 w0 w1)) : LkP Q (fn_X3_enter_B279 F sh n h0 r_40 r_44 p_29 ko220 z_47 p_46) := by
  unfold fn_X3_enter_B279
  exact (LkP.xc (lkp_fn_X3_putReference K h_z_47 g_h0) (fun z_48 _ h_z_48 => (hko_ko220 _ _ h_z_48 )))
theorem lkp_fn_X3_enter_L220 {F : Nat} {sh : Nat → Nat × Nat} {n : Nat} {h0 : Nat} {x0 : Int32} {p_22 : Int64} {p_23 : Int64} (K : Kp Q G) (g_h0 : G h0) : ∀ (f : Nat) (v1 : St) (v2 : Int32), Q v1 → LkP Q (fn_X3_enter_L220 F sh n h0 x0 p_22 p_23 f v1 v2) := by
  intro f
  induction f with
  | zero => intros; exact LkP.none
  | succ f_31 ih =>
    intro z_30 p_29 h_z_30
    exact (LkP.xl (fun k_32 q => have g_k_32 := K.2.2.2.2.2 _ _ _ _ h_z_30 g_h0 q; (LkP.xg (LkP.xc (lkp_fn_X5_gives K h_z_30 g_k_32) (fun z_33 r_34 h_z_33 => (LkP.ite (LkP.ret h_z_33) (LkP.xl (fun k_38 q => have g_k_38 := K.2.2.2.2.2 _ _ _ _ h_z_33 g_h0 q; (LkP.xg (LkP.xc (lkp_fn_X5_givenType K h_z_33 g_k_38) (fun z_39 r_40 h_z_39 => (LkP.xc (lkp_fn_X5_isReference K h_z_39) (fun z_43 r_44 h_z_43 => (LkP.ite (lkp_fn_X3_enter_B279 K h_z_43 g_h0 (fun z9 q8 hk_z9 => (ih _ _ hk_z9 ))) (LkP.xc (lkp_fn_X3_writes K h_z_43) (fun z_51 r_52 h_z_51 => (LkP.ite (lkp_fn_X3_enter_B279 K h_z_51 g_h0 (fun z9 q8 hk_z9 => (ih _ _ hk_z9 ))) (lkp_fn_X3_enter_B279 K h_z_51 g_h0 (fun z9 q8 hk_z9 => (ih _ _ hk_z9 ))))))))))))))))))))
theorem lkp_fn_X3_enter_B217 {F : Nat} {sh : Nat → Nat × Nat} {n : Nat} {h0 : Nat} {x0 : Int32} {p_22 : Int64} {p_23 : Int64} {z_28 : St} (K : Kp Q G) (h_z_28 : Q z_28) (g_h0 : G h0) : LkP Q (fn_X3_enter_B217 F sh n h0 x0 p_22 p_23 z_28) := by
  unfold fn_X3_enter_B217
  exact (lkp_fn_X3_enter_L220 K g_h0 _ _ _ h_z_28 )
theorem lkp_fn_X3_enter_B211 {F : Nat} {sh : Nat → Nat × Nat} {n : Nat} {h0 : Nat} {x0 : Int32} {p_22 : Int64} {p_23 : Int64} {z_56 : St} (K : Kp Q G) (h_z_56 : Q z_56) (g_h0 : G h0) : LkP Q (fn_X3_enter_B211 F sh n h0 x0 p_22 p_23 z_56) := by
  unfold fn_X3_enter_B211
  exact (LkP.xc (lkp_fn_X3_fail K h_z_56 g_h0) (fun z_57 _ h_z_57 => (lkp_fn_X3_enter_B217 K h_z_57 g_h0)))
theorem lkp_fn_X3_enter_B167 {F : Nat} {sh : Nat → Nat × Nat} {n : Nat} {h0 : Nat} {p_24 : Int32} {p_22 : Int64} {ko101 : St → Int64 → Int64 → Int32 → Option (St × Unit)} {z_70 : St} {p_69 : Int64} (K : Kp Q G) (h_z_70 : Q z_70) (g_h0 : G h0) (hko_ko101 : ∀ (w0 : St) (w1 : Int64) (w2 : Int64) (w3 : Int32), Q w0 → LkP Q (ko101 w0 w1 w2 w3)) : LkP Q (fn_X3_enter_B167 F sh n h0 p_24 p_22 ko101 z_70 p_69) := by
  unfold fn_X3_enter_B167
  exact (LkP.xl (fun k_71 q => have g_k_71 := K.2.2.2.2.2 _ _ _ _ h_z_70 g_h0 q; (LkP.xg (LkP.ltv (fun v_73 => (hko_ko101 _ _ _ _ h_z_70 ))))))
theorem lkp_fn_X3_enter_B155 {F : Nat} {sh : Nat → Nat × Nat} {n : Nat} {h0 : Nat} {p_24 : Int32} {p_23 : Int64} {p_22 : Int64} {ko101 : St → Int64 → Int64 → Int32 → Option (St × Unit)} {z_80 : St} (K : Kp Q G) (h_z_80 : Q z_80) (g_h0 : G h0) (hko_ko101 : ∀ (w0 : St) (w1 : Int64) (w2 : Int64) (w3 : Int32), Q w0 → LkP Q (ko101 w0 w1 w2 w3)) : LkP Q (fn_X3_enter_B155 F sh n h0 p_24 p_23 p_22 ko101 z_80) := by
  unfold fn_X3_enter_B155
  exact (LkP.xl (fun k_81 q => have g_k_81 := K.2.2.2.2.2 _ _ _ _ h_z_80 g_h0 q; (LkP.xg (LkP.ltv (fun v_83 => (lkp_fn_X3_enter_B167 K h_z_80 g_h0 (fun z9 q4 q6 q8 hk_z9 => (hko_ko101 _ _ _ _ hk_z9 ))))))))
theorem lkp_fn_X3_enter_B149 {F : Nat} {sh : Nat → Nat × Nat} {n : Nat} {h0 : Nat} {p_24 : Int32} {p_23 : Int64} {p_22 : Int64} {ko101 : St → Int64 → Int64 → Int32 → Option (St × Unit)} {z_84 : St} (K : Kp Q G) (h_z_84 : Q z_84) (g_h0 : G h0) (hko_ko101 : ∀ (w0 : St) (w1 : Int64) (w2 : Int64) (w3 : Int32), Q w0 → LkP Q (ko101 w0 w1 w2 w3)) : LkP Q (fn_X3_enter_B149 F sh n h0 p_24 p_23 p_22 ko101 z_84) := by
  unfold fn_X3_enter_B149
  exact (LkP.xc (lkp_fn_X3_fail K h_z_84 g_h0) (fun z_85 _ h_z_85 => (lkp_fn_X3_enter_B155 K h_z_85 g_h0 (fun z9 q4 q6 q8 hk_z9 => (hko_ko101 _ _ _ _ hk_z9 )))))
theorem lkp_fn_X3_enter_L101 {F : Nat} {sh : Nat → Nat × Nat} {n : Nat} {h0 : Nat} {r_4 : Int32} {p_18 : Int32} {x0 : Int32} (K : Kp Q G) (g_h0 : G h0) : ∀ (f : Nat) (v1 : St) (v2 : Int64) (v3 : Int64) (v4 : Int32), Q v1 → LkP Q (fn_X3_enter_L101 F sh n h0 r_4 p_18 x0 f v1 v2 v3 v4) := by
  intro f
  induction f with
  | zero => intros; exact LkP.none
  | succ f_26 ih =>
    intro z_25 p_22 p_23 p_24 h_z_25
    exact (LkP.ite (LkP.ite (lkp_fn_X3_enter_B217 K h_z_25 g_h0) (LkP.ite (LkP.xc (lkp_fn_X3_isLive K h_z_25 g_h0) (fun z_60 r_61 h_z_60 => (LkP.ite (lkp_fn_X3_enter_B217 K h_z_60 g_h0) (lkp_fn_X3_enter_B211 K h_z_60 g_h0)))) (lkp_fn_X3_enter_B211 K h_z_25 g_h0))) (LkP.xl (fun k_64 q => have g_k_64 := K.2.2.2.2.2 _ _ _ _ h_z_25 g_h0 q; (LkP.xg (LkP.xc (lkp_fn_X3_writes K h_z_25) (fun z_66 r_67 h_z_66 => (LkP.ite (lkp_fn_X3_enter_B167 K h_z_66 g_h0 (fun z9 q4 q6 q8 hk_z9 => (ih _ _ _ _ hk_z9 ))) (LkP.xl (fun k_75 q => have g_k_75 := K.2.2.2.2.2 _ _ _ _ h_z_66 g_h0 q; (LkP.xg (LkP.xc (lkp_fn_X3_isSole K h_z_66 g_h0) (fun z_77 r_78 h_z_77 => (LkP.ite (lkp_fn_X3_enter_B149 K h_z_77 g_h0 (fun z9 q4 q6 q8 hk_z9 => (ih _ _ _ _ hk_z9 ))) (LkP.xc (lkp_fn_X3_meetsOther K h_z_77 g_h0) (fun z_88 r_89 h_z_88 => (LkP.ite (lkp_fn_X3_enter_B155 K h_z_88 g_h0 (fun z9 q4 q6 q8 hk_z9 => (ih _ _ _ _ hk_z9 ))) (lkp_fn_X3_enter_B149 K h_z_88 g_h0 (fun z9 q4 q6 q8 hk_z9 => (ih _ _ _ _ hk_z9 )))))))))))))))))))
theorem lkp_fn_X3_enter_B89 {F : Nat} {sh : Nat → Nat × Nat} {n : Nat} {h0 : Nat} {r_4 : Int32} {p_18 : Int32} {x0 : Int32} {z_20 : St} (K : Kp Q G) (h_z_20 : Q z_20) (g_h0 : G h0) : LkP Q (fn_X3_enter_B89 F sh n h0 r_4 p_18 x0 z_20) := by
  unfold fn_X3_enter_B89
  exact (LkP.ltv (fun v_21 => (lkp_fn_X3_enter_L101 K g_h0 _ _ _ _ _ h_z_20 )))
theorem lkp_fn_X3_enter_B62 {F : Nat} {sh : Nat → Nat × Nat} {n : Nat} {h0 : Nat} {r_4 : Int32} {x0 : Int32} {z_19 : St} {p_18 : Int32} (K : Kp Q G) (h_z_19 : Q z_19) (g_h0 : G h0) : LkP Q (fn_X3_enter_B62 F sh n h0 r_4 x0 z_19 p_18) := by
  unfold fn_X3_enter_B62
  exact (LkP.ite (lkp_fn_X3_enter_B89 K h_z_19 g_h0) (LkP.xl (fun k_93 q => have g_k_93 := K.2.2.2.2.2 _ _ _ _ h_z_19 g_h0 q; (LkP.xg (LkP.xc (lkp_fn_X5_flags K h_z_19 g_k_93) (fun z_94 r_95 h_z_94 => (LkP.ite (LkP.xc (lkp_fn_X3_fail K h_z_94 g_h0) (fun z_99 _ h_z_99 => (lkp_fn_X3_enter_B89 K h_z_99 g_h0))) (lkp_fn_X3_enter_B89 K h_z_94 g_h0))))))))
theorem lkp_fn_X3_enter_L13 {F : Nat} {sh : Nat → Nat × Nat} {n : Nat} {h0 : Nat} {x0 : Int32} {r_4 : Int32} (K : Kp Q G) (g_h0 : G h0) : ∀ (f : Nat) (v1 : St) (v2 : Int32), Q v1 → LkP Q (fn_X3_enter_L13 F sh n h0 x0 r_4 f v1 v2) := by
  intro f
  induction f with
  | zero => intros; exact LkP.none
  | succ f_10 ih =>
    intro z_9 p_8 h_z_9
    exact (LkP.ite (LkP.ite (LkP.xl (fun k_13 q => have g_k_13 := K.2.2.2.2.2 _ _ _ _ h_z_9 g_h0 q; (LkP.xg (LkP.xc (lkp_fn_X5_flags K h_z_9 g_k_13) (fun z_14 r_15 h_z_14 => (LkP.ite (lkp_fn_X3_enter_B62 K h_z_14 g_h0) (lkp_fn_X3_enter_B62 K h_z_14 g_h0))))))) (LkP.ret h_z_9)) (LkP.xl (fun k_102 q => have g_k_102 := K.2.2.2.2.2 _ _ _ _ h_z_9 g_h0 q; (LkP.xg (LkP.xc (lkp_fn_X5_takenType K h_z_9 g_k_102) (fun z_103 r_104 h_z_103 => (LkP.xc (lkp_fn_X3_takeOnly K h_z_103 g_h0) (fun z_107 _ h_z_107 => (ih _ _ h_z_107 )))))))))
theorem lkp_fn_X3_enter {F : Nat} {sh : Nat → Nat × Nat} {n : Nat} {z : St} {h0 : Nat} {x0 : Int32} (K : Kp Q G) (h_z : Q z) (g_h0 : G h0) : LkP Q (fn_X3_enter F sh n z h0 x0) := by
  unfold fn_X3_enter
  exact (LkP.xg (LkP.xl (fun k_2 q => have g_k_2 := K.2.2.2.2.2 _ _ _ _ h_z g_h0 q; (LkP.xg (LkP.xc (lkp_fn_X5_takes K h_z g_k_2) (fun z_3 r_4 h_z_3 => (LkP.ltv (fun v_7 => (lkp_fn_X3_enter_L13 K g_h0 _ _ _ h_z_3 )))))))))
theorem lkp_fn_X6_readInstruction_B173 {F : Nat} {sh : Nat → Nat × Nat} {n : Nat} {h0 : Nat} {z_14 : St} (K : Kp Q G) (h_z_14 : Q z_14) (g_h0 : G h0) : LkP Q (fn_X6_readInstruction_B173 F sh n h0 z_14) := by
  unfold fn_X6_readInstruction_B173
  exact (LkP.xc (lkp_fn_X6_readOwnStructure K h_z_14 g_h0) (fun z_15 r_16 h_z_15 => (LkP.xl (fun k_18 q => have g_k_18 := K.2.2.2.2.2 _ _ _ _ h_z_15 g_h0 q; (LkP.xg (LkP.xc (lkp_fn_X5_fieldCount K h_z_15 g_k_18) (fun z_19 r_20 h_z_19 => (LkP.xc (lkp_fn_X6_readJudged K h_z_19 g_h0) (fun z_23 r_24 h_z_23 => (LkP.ret h_z_23))))))))))
theorem lkp_fn_X6_readInstruction_B228 {F : Nat} {sh : Nat → Nat × Nat} {n : Nat} {r_8 : Int32} {h0 : Nat} {z_36 : St} (K : Kp Q G) (h_z_36 : Q z_36) (g_h0 : G h0) : LkP Q (fn_X6_readInstruction_B228 F sh n r_8 h0 z_36) := by
  unfold fn_X6_readInstruction_B228
  exact (LkP.ite (LkP.xl (fun k_49 q => have g_k_49 := K.2.2.2.2.2 _ _ _ _ h_z_36 g_h0 q; (LkP.xg (LkP.xl (fun k_51 q => have g_k_51 := K.2.2.2.2.2 _ _ _ _ h_z_36 g_h0 q; (LkP.xg (LkP.xc (lkp_fn_X6_readJudged K h_z_36 g_h0) (fun z_53 r_54 h_z_53 => (LkP.ret h_z_53))))))))) (LkP.ite (LkP.ret h_z_36) (LkP.ite (LkP.ret h_z_36) (LkP.xl (fun k_40 q => have g_k_40 := K.2.2.2.2.2 _ _ _ _ h_z_36 g_h0 q; (LkP.xg (LkP.xc (lkp_fn_X6_readJudged K h_z_36 g_h0) (fun z_42 r_43 h_z_42 => (LkP.ite (LkP.xc (lkp_fn_X6_readNumber K h_z_42 g_h0) (fun z_46 r_47 h_z_46 => (LkP.ret h_z_46))) (LkP.ret h_z_42))))))))))
theorem lkp_fn_X6_readInstruction_B161 {F : Nat} {sh : Nat → Nat × Nat} {n : Nat} {r_8 : Int32} {h0 : Nat} {z_13 : St} (K : Kp Q G) (h_z_13 : Q z_13) (g_h0 : G h0) : LkP Q (fn_X6_readInstruction_B161 F sh n r_8 h0 z_13) := by
  unfold fn_X6_readInstruction_B161
  exact (LkP.ite (lkp_fn_X6_readInstruction_B173 K h_z_13 g_h0) (LkP.ite (lkp_fn_X6_readInstruction_B173 K h_z_13 g_h0) (LkP.ite (LkP.xc (lkp_fn_X6_readOwnStructure K h_z_13 g_h0) (fun z_29 r_30 h_z_29 => (LkP.ret h_z_29))) (LkP.ite (LkP.xc (lkp_fn_X6_readOwnStructure K h_z_13 g_h0) (fun z_33 r_34 h_z_33 => (LkP.ret h_z_33))) (LkP.ite (lkp_fn_X6_readInstruction_B228 K h_z_13 g_h0) (LkP.ite (lkp_fn_X6_readInstruction_B228 K h_z_13 g_h0) (LkP.xc (lkp_fn_X6_readOwnStructure K h_z_13 g_h0) (fun z_58 r_59 h_z_58 => (LkP.ret h_z_58)))))))))
theorem lkp_fn_X6_readInstruction_B135 {F : Nat} {sh : Nat → Nat × Nat} {n : Nat} {r_8 : Int32} {h0 : Nat} {z_12 : St} (K : Kp Q G) (h_z_12 : Q z_12) (g_h0 : G h0) : LkP Q (fn_X6_readInstruction_B135 F sh n r_8 h0 z_12) := by
  unfold fn_X6_readInstruction_B135
  exact (LkP.ite (lkp_fn_X6_readInstruction_B161 K h_z_12 g_h0) (LkP.ite (lkp_fn_X6_readInstruction_B161 K h_z_12 g_h0) (LkP.xc (lkp_fn_X6_readJudged K h_z_12 g_h0) (fun z_63 r_64 h_z_63 => (LkP.ret h_z_63)))))
theorem lkp_fn_X6_readInstruction_B79 {F : Nat} {sh : Nat → Nat × Nat} {n : Nat} {r_8 : Int32} {h0 : Nat} {z_11 : St} (K : Kp Q G) (h_z_11 : Q z_11) (g_h0 : G h0) : LkP Q (fn_X6_readInstruction_B79 F sh n r_8 h0 z_11) := by
  unfold fn_X6_readInstruction_B79
  exact (LkP.ite (lkp_fn_X6_readInstruction_B135 K h_z_11 g_h0) (LkP.ite (lkp_fn_X6_readInstruction_B135 K h_z_11 g_h0) (LkP.ite (LkP.xc (lkp_fn_X6_pass K h_z_11 g_h0) (fun z_80 _ h_z_80 => (LkP.ret h_z_80))) (LkP.ite (LkP.xc (lkp_fn_X6_pass K h_z_11 g_h0) (fun z_78 _ h_z_78 => (LkP.ret h_z_78))) (LkP.ite (LkP.xc (lkp_fn_X6_pass K h_z_11 g_h0) (fun z_71 _ h_z_71 => (LkP.ret h_z_71))) (LkP.ite (LkP.xc (lkp_fn_X6_pass K h_z_11 g_h0) (fun z_76 _ h_z_76 => (LkP.ret h_z_76))) (LkP.xc (lkp_fn_X6_pass K h_z_11 g_h0) (fun z_74 _ h_z_74 => (LkP.ret h_z_74)))))))))
theorem lkp_fn_X6_readInstruction {F : Nat} {sh : Nat → Nat × Nat} {n : Nat} {z : St} {h0 : Nat} (K : Kp Q G) (h_z : Q z) (g_h0 : G h0) : LkP Q (fn_X6_readInstruction F sh n z h0) := by
  unfold fn_X6_readInstruction
  exact (LkP.xg (LkP.xl (fun k_2 q => have g_k_2 := K.2.2.2.2.2 _ _ _ _ h_z g_h0 q; (LkP.xg (LkP.xc (lkp_fn_X5_addStart K h_z g_k_2) (fun z_3 _ h_z_3 => (LkP.ltv (fun v_6 => (LkP.xc (lkp_fn_X6_readByte K h_z_3 g_h0) (fun z_7 r_8 h_z_7 => (LkP.ite (LkP.ite (lkp_fn_X6_readInstruction_B79 K h_z_7 g_h0) (LkP.ite (lkp_fn_X6_readInstruction_B79 K h_z_7 g_h0) (LkP.ltv (fun v_84 => (LkP.xc (lkp_fn_X6_readShort K h_z_7 g_h0) (fun z_85 r_86 h_z_85 => (LkP.ite (LkP.ret h_z_85) (LkP.ite (LkP.ret h_z_85) (LkP.xc (lkp_fn_X6_fail K h_z_85 g_h0) (fun z_90 _ h_z_90 => (LkP.ret h_z_90))))))))))) (LkP.xc (lkp_fn_X6_fail K h_z_7 g_h0) (fun z_92 _ h_z_92 => (LkP.ret h_z_92))))))))))))))
theorem lkp_fn_X3_prepare_B262 {F : Nat} {sh : Nat → Nat × Nat} {n : Nat} {h0 : Nat} {z_63 : St} {p_31 : Int32} {ko159 : St → Int32 → Option (St × Unit)} {z_70 : St} {p_69 : Int64} (K : Kp Q G) (h_z_63 : Q z_63) (h_z_70 : Q z_70) (g_h0 : G h0) (hko_ko159 : ∀ (w0 : St) (w1 : Int32), Q w0 → LkP Q (ko159 w0 w1)) : LkP Q (fn_X3_prepare_B262 F sh n h0 z_63 p_31 ko159 z_70 p_69) := by
  unfold fn_X3_prepare_B262
  exact (LkP.lts (K.2.1 _ _ _ _ h_z_70 g_h0) (fun z_72 h_z_72 => (hko_ko159 _ _ h_z_72 )))
theorem lkp_fn_X3_prepare_B235 {F : Nat} {sh : Nat → Nat × Nat} {n : Nat} {k_53 : Nat} {p_31 : Int32} {h0 : Nat} {p_47 : Int64} {ko159 : St → Int32 → Option (St × Unit)} {z_60 : St} {p_59 : Int64} (K : Kp Q G) (h_z_60 : Q z_60) (g_k_53 : G k_53) (g_h0 : G h0) (hko_ko159 : ∀ (w0 : St) (w1 : Int32), Q w0 → LkP Q (ko159 w0 w1)) : LkP Q (fn_X3_prepare_B235 F sh n k_53 p_31 h0 p_47 ko159 z_60 p_59) := by
  unfold fn_X3_prepare_B235
  exact (LkP.xg (LkP.lts (K.2.1 _ _ _ _ h_z_60 g_k_53) (fun z_63 h_z_63 => (LkP.xl (fun k_64 q => have g_k_64 := K.2.2.2.2.2 _ _ _ _ h_z_63 g_h0 q; (LkP.xg (LkP.xc (lkp_fn_X5_abilities K h_z_63 g_k_64) (fun z_65 r_66 h_z_65 => (LkP.ite (lkp_fn_X3_prepare_B262 K h_z_63 h_z_65 g_h0 (fun z9 q3 hk_z9 => (hko_ko159 _ _ hk_z9 ))) (lkp_fn_X3_prepare_B262 K h_z_63 h_z_65 g_h0 (fun z9 q3 hk_z9 => (hko_ko159 _ _ hk_z9 ))))))))))))
theorem lkp_fn_X3_prepare_B234 {F : Nat} {sh : Nat → Nat × Nat} {n : Nat} {k_53 : Nat} {p_31 : Int32} {h0 : Nat} {p_47 : Int64} {ko159 : St → Int32 → Option (St × Unit)} {z_74 : St} (K : Kp Q G) (h_z_74 : Q z_74) (g_k_53 : G k_53) (g_h0 : G h0) (hko_ko159 : ∀ (w0 : St) (w1 : Int32), Q w0 → LkP Q (ko159 w0 w1)) : LkP Q (fn_X3_prepare_B234 F sh n k_53 p_31 h0 p_47 ko159 z_74) := by
  unfold fn_X3_prepare_B234
  exact (lkp_fn_X3_prepare_B235 K h_z_74 g_k_53 g_h0 (fun z9 q3 hk_z9 => (hko_ko159 _ _ hk_z9 )))
theorem lkp_fn_X3_prepare_B190 {F : Nat} {sh : Nat → Nat × Nat} {n : Nat} {h0 : Nat} {p_31 : Int32} {x0 : Int32} {ko159 : St → Int32 → Option (St × Unit)} {z_48 : St} {p_47 : Int64} (K : Kp Q G) (h_z_48 : Q z_48) (g_h0 : G h0) (hko_ko159 : ∀ (w0 : St) (w1 : Int32), Q w0 → LkP Q (ko159 w0 w1)) : LkP Q (fn_X3_prepare_B190 F sh n h0 p_31 x0 ko159 z_48 p_47) := by
  unfold fn_X3_prepare_B190
  exact (LkP.xl (fun k_49 q => have g_k_49 := K.2.2.2.2.2 _ _ _ _ h_z_48 g_h0 q; (LkP.xg (LkP.lts (K.2.1 _ _ _ _ h_z_48 g_k_49) (fun z_52 h_z_52 => (LkP.xl (fun k_53 q => have g_k_53 := K.2.2.2.2.2 _ _ _ _ h_z_52 g_h0 q; (LkP.xl (fun k_54 q => have g_k_54 := K.2.2.2.2.2 _ _ _ _ h_z_52 g_h0 q; (LkP.xg (LkP.xc (lkp_fn_X5_takes K h_z_52 g_k_54) (fun z_55 r_56 h_z_55 => (LkP.ite (lkp_fn_X3_prepare_B234 K h_z_55 g_k_53 g_h0 (fun z9 q3 hk_z9 => (hko_ko159 _ _ hk_z9 ))) (LkP.xc (lkp_fn_X5_isReference K h_z_55) (fun z_76 r_77 h_z_76 => (LkP.ite (lkp_fn_X3_prepare_B234 K h_z_76 g_k_53 g_h0 (fun z9 q3 hk_z9 => (hko_ko159 _ _ hk_z9 ))) (lkp_fn_X3_prepare_B235 K h_z_76 g_k_53 g_h0 (fun z9 q3 hk_z9 => (hko_ko159 _ _ hk_z9 )))))))))))))))))))
theorem lkp_fn_X3_prepare_L159 {F : Nat} {sh : Nat → Nat × Nat} {n : Nat} {h0 : Nat} {x0 : Int32} (K : Kp Q G) (g_h0 : G h0) : ∀ (f : Nat) (v1 : St) (v2 : Int32), Q v1 → LkP Q (fn_X3_prepare_L159 F sh n h0 x0 f v1 v2) := by
  intro f
  induction f with
  | zero => intros; exact LkP.none
  | succ f_33 ih =>
    intro z_32 p_31 h_z_32
    exact (LkP.ite (LkP.lts (K.1 _ _ _ _ h_z_32 g_h0) (fun z_36 h_z_36 => (LkP.xl (fun k_37 q => have g_k_37 := K.2.2.2.2.2 _ _ _ _ h_z_36 g_h0 q; (LkP.xg (LkP.ite (LkP.ret h_z_36) (LkP.xc (lkp_fn_X3_join K h_z_36 g_h0) (fun z_40 _ h_z_40 => (LkP.ret h_z_40))))))))) (LkP.xl (fun k_42 q => have g_k_42 := K.2.2.2.2.2 _ _ _ _ h_z_32 g_h0 q; (LkP.xg (LkP.xc (lkp_fn_X5_localCount K h_z_32 g_k_42) (fun z_43 r_44 h_z_43 => (LkP.ite (lkp_fn_X3_prepare_B190 K h_z_43 g_h0 (fun z9 q3 hk_z9 => (ih _ _ hk_z9 ))) (LkP.xl (fun k_81 q => have g_k_81 := K.2.2.2.2.2 _ _ _ _ h_z_43 g_h0 q; (LkP.xg (LkP.xc (lkp_fn_X5_localType K h_z_43 g_k_81) (fun z_82 r_83 h_z_82 => (lkp_fn_X3_prepare_B190 K h_z_82 g_h0 (fun z9 q3 hk_z9 => (ih _ _ hk_z9 )))))))))))))))
theorem lkp_fn_X3_prepare_B120 {F : Nat} {sh : Nat → Nat × Nat} {n : Nat} {p_14 : Int32} {ko49 : St → Int32 → Option (St × Unit)} {z_102 : St} (K : Kp Q G) (h_z_102 : Q z_102) (hko_ko49 : ∀ (w0 : St) (w1 : Int32), Q w0 → LkP Q (ko49 w0 w1)) : LkP Q (fn_X3_prepare_B120 F sh n p_14 ko49 z_102) := by
  unfold fn_X3_prepare_B120
  exact (hko_ko49 _ _ h_z_102 )
theorem lkp_fn_X3_prepare_L49 {F : Nat} {sh : Nat → Nat × Nat} {n : Nat} {v_9 : Int32} {h0 : Nat} {x0 : Int32} (K : Kp Q G) (g_h0 : G h0) : ∀ (f : Nat) (v1 : St) (v2 : Int32), Q v1 → LkP Q (fn_X3_prepare_L49 F sh n v_9 h0 x0 f v1 v2) := by
  intro f
  induction f with
  | zero => intros; exact LkP.none
  | succ f_16 ih =>
    intro z_15 p_14 h_z_15
    exact (LkP.ite (LkP.lts (K.1 _ _ _ _ h_z_15 g_h0) (fun z_19 h_z_19 => (LkP.lts (K.2.1 _ _ _ _ h_z_19 g_h0) (fun z_21 h_z_21 => (LkP.xl (fun k_22 q => have g_k_22 := K.2.2.2.2.2 _ _ _ _ h_z_21 g_h0 q; (LkP.xg (LkP.xc (lkp_fn_X5_takes K h_z_21 g_k_22) (fun z_23 r_24 h_z_23 => (LkP.lts (K.2.1 _ _ _ _ h_z_23 g_h0) (fun z_28 h_z_28 => (LkP.lts (K.2.1 _ _ _ _ h_z_28 g_h0) (fun z_30 h_z_30 => (lkp_fn_X3_prepare_L159 K g_h0 _ _ _ h_z_30 )))))))))))))) (LkP.xl (fun k_86 q => have g_k_86 := K.2.2.2.2.2 _ _ _ _ h_z_15 g_h0 q; (LkP.xg (LkP.xc (lkp_fn_X5_instructionPlace K h_z_15 g_k_86) (fun z_87 r_88 h_z_87 => (LkP.xl (fun k_91 q => have g_k_91 := K.2.2.2.2.2 _ _ _ _ h_z_87 g_h0 q; (LkP.xg (LkP.xc (lkp_fn_X5_numberAt K h_z_87 g_k_91) (fun z_92 r_93 h_z_92 => (LkP.ltv (fun v_96 => (LkP.xl (fun k_97 q => have g_k_97 := K.2.2.2.2.2 _ _ _ _ h_z_92 g_h0 q; (LkP.xg (LkP.xc (lkp_fn_X5_at K h_z_92 g_k_97) (fun z_98 r_99 h_z_98 => (LkP.ite (lkp_fn_X3_prepare_B120 K h_z_98 (fun z9 q3 hk_z9 => (ih _ _ hk_z9 ))) (LkP.xl (fun k_104 q => have g_k_104 := K.2.2.2.2.2 _ _ _ _ h_z_98 g_h0 q; (LkP.xg (LkP.xc (lkp_fn_X5_at K h_z_98 g_k_104) (fun z_105 r_106 h_z_105 => (LkP.ite (lkp_fn_X3_prepare_B120 K h_z_105 (fun z9 q3 hk_z9 => (ih _ _ hk_z9 ))) (LkP.ite (lkp_fn_X3_prepare_B120 K h_z_105 (fun z9 q3 hk_z9 => (ih _ _ hk_z9 ))) (LkP.xl (fun k_111 q => have g_k_111 := K.2.2.2.2.2 _ _ _ _ h_z_105 g_h0 q; (LkP.xg (LkP.lts (K.1 _ _ _ _ h_z_105 g_k_111) (fun z_114 h_z_114 => (lkp_fn_X3_prepare_B120 K h_z_114 (fun z9 q3 hk_z9 => (ih _ _ hk_z9 ))))))))))))))))))))))))))))))))))
theorem lkp_fn_X3_prepare_L22 {F : Nat} {sh : Nat → Nat × Nat} {n : Nat} {v_9 : Int32} {h0 : Nat} {x0 : Int32} (K : Kp Q G) (g_h0 : G h0) : ∀ (f : Nat) (v1 : St) (v2 : Int32), Q v1 → LkP Q (fn_X3_prepare_L22 F sh n v_9 h0 x0 f v1 v2) := by
  intro f
  induction f with
  | zero => intros; exact LkP.none
  | succ f_12 ih =>
    intro z_11 p_10 h_z_11
    exact (LkP.ite (lkp_fn_X3_prepare_L49 K g_h0 _ _ _ h_z_11 ) (LkP.xl (fun k_115 q => have g_k_115 := K.2.2.2.2.2 _ _ _ _ h_z_11 g_h0 q; (LkP.xg (LkP.lts (K.1 _ _ _ _ h_z_11 g_k_115) (fun z_118 h_z_118 => (LkP.xl (fun k_119 q => have g_k_119 := K.2.2.2.2.2 _ _ _ _ h_z_118 g_h0 q; (LkP.xg (LkP.lts (K.1 _ _ _ _ h_z_118 g_k_119) (fun z_122 h_z_122 => (ih _ _ h_z_122 ))))))))))))
theorem lkp_fn_X3_prepare {F : Nat} {sh : Nat → Nat × Nat} {n : Nat} {z : St} {h0 : Nat} {x0 : Int32} (K : Kp Q G) (h_z : Q z) (g_h0 : G h0) : LkP Q (fn_X3_prepare F sh n z h0 x0) := by
  unfold fn_X3_prepare
  exact (LkP.xg (LkP.lts (K.1 _ _ _ _ h_z g_h0) (fun z_3 h_z_3 => (LkP.xl (fun k_4 q => have g_k_4 := K.2.2.2.2.2 _ _ _ _ h_z_3 g_h0 q; (LkP.xg (LkP.xc (lkp_fn_X5_instructions K h_z_3 g_k_4) (fun z_5 r_6 h_z_5 => (LkP.ltv (fun v_9 => (lkp_fn_X3_prepare_L22 K g_h0 _ _ _ h_z_5 )))))))))))
theorem lkp_fn_X16_manyIn {F : Nat} {sh : Nat → Nat × Nat} {n : Nat} {z : St} {h0 : Nat} {x0 : Int32} {x1 : Int32} (K : Kp Q G) (h_z : Q z) (g_h0 : G h0) : LkP Q (fn_X16_manyIn F sh n z h0 x0 x1) := by
  unfold fn_X16_manyIn
  exact (LkP.xg (LkP.xc (lkp_fn_X16_listAt K h_z g_h0) (fun z_1 r_2 h_z_1 => (LkP.xc (lkp_fn_X16_byteAt K h_z_1 g_h0) (fun z_5 r_6 h_z_5 => (LkP.ret h_z_5))))))
theorem lkp_fn_X18_takeLong {F : Nat} {sh : Nat → Nat × Nat} {n : Nat} {z : St} {h0 : Nat} (K : Kp Q G) (h_z : Q z) (g_h0 : G h0) : LkP Q (fn_X18_takeLong F sh n z h0) := by
  unfold fn_X18_takeLong
  exact (LkP.xg (LkP.xc (lkp_fn_X18_take K h_z g_h0) (fun z_1 r_2 h_z_1 => (LkP.xl (fun k_5 q => have g_k_5 := K.2.2.2.2.2 _ _ _ _ h_z_1 g_h0 q; (LkP.xg (LkP.xl (fun k_7 q => have g_k_7 := K.2.2.2.2.2 _ _ _ _ h_z_1 g_k_5 q; (LkP.xg (LkP.ret h_z_1))))))))))
theorem lkp_fn_X18_abilitiesThere {F : Nat} {sh : Nat → Nat × Nat} {n : Nat} {z : St} {h0 : Nat} {x0 : Int32} {x1 : Int32} (K : Kp Q G) (h_z : Q z) (g_h0 : G h0) : LkP Q (fn_X18_abilitiesThere F sh n z h0 x0 x1) := by
  unfold fn_X18_abilitiesThere
  exact (LkP.ite (LkP.ret h_z) (LkP.xg (LkP.xl (fun k_3 q => have g_k_3 := K.2.2.2.2.2 _ _ _ _ h_z g_h0 q; (LkP.xc (lkp_fn_X18_findModule K h_z g_h0) (fun z_4 r_5 h_z_4 => (LkP.xg (LkP.xl (fun k_8 q => have g_k_8 := K.2.2.2.2.2 _ _ _ _ h_z_4 g_k_3 q; (LkP.xg (LkP.xc (lkp_fn_X16_abilitiesOf K h_z_4 g_k_8) (fun z_9 r_10 h_z_9 => (LkP.ret h_z_9)))))))))))))
theorem lkp_fn_X18_flagsThere {F : Nat} {sh : Nat → Nat × Nat} {n : Nat} {z : St} {h0 : Nat} {x0 : Int32} {x1 : Int32} (K : Kp Q G) (h_z : Q z) (g_h0 : G h0) : LkP Q (fn_X18_flagsThere F sh n z h0 x0 x1) := by
  unfold fn_X18_flagsThere
  exact (LkP.ite (LkP.ret h_z) (LkP.xg (LkP.xl (fun k_3 q => have g_k_3 := K.2.2.2.2.2 _ _ _ _ h_z g_h0 q; (LkP.xc (lkp_fn_X18_findModule K h_z g_h0) (fun z_4 r_5 h_z_4 => (LkP.xg (LkP.xl (fun k_8 q => have g_k_8 := K.2.2.2.2.2 _ _ _ _ h_z_4 g_k_3 q; (LkP.xg (LkP.xc (lkp_fn_X16_flags K h_z_4 g_k_8) (fun z_9 r_10 h_z_9 => (LkP.ret h_z_9)))))))))))))
theorem lkp_fn_X18_identityThere {F : Nat} {sh : Nat → Nat × Nat} {n : Nat} {z : St} {h0 : Nat} {x0 : Int32} {x1 : Int32} (K : Kp Q G) (h_z : Q z) (g_h0 : G h0) : LkP Q (fn_X18_identityThere F sh n z h0 x0 x1) := by
  unfold fn_X18_identityThere
  exact (LkP.ite (LkP.ret h_z) (LkP.xg (LkP.xl (fun k_3 q => have g_k_3 := K.2.2.2.2.2 _ _ _ _ h_z g_h0 q; (LkP.xc (lkp_fn_X18_findModule K h_z g_h0) (fun z_4 r_5 h_z_4 => (LkP.xg (LkP.xl (fun k_8 q => have g_k_8 := K.2.2.2.2.2 _ _ _ _ h_z_4 g_k_3 q; (LkP.xg (LkP.xc (lkp_fn_X16_identity K h_z_4 g_k_8) (fun z_9 r_10 h_z_9 => (LkP.ret h_z_9)))))))))))))
theorem lkp_fn_X2_open {F : Nat} {sh : Nat → Nat × Nat} {n : Nat} {z : St} {h0 : Nat} {x0 : Nat} (K : Kp Q G) (h_z : Q z) (g_h0 : G h0) (g_x0 : G x0) : LkP Q (fn_X2_open F sh n z h0 x0) := by
  unfold fn_X2_open
  exact (LkP.xg (LkP.lts (K.1 _ _ _ _ h_z g_h0) (fun z_3 h_z_3 => (LkP.xg (LkP.xc (lkp_fn_X2_ask K h_z_3 g_h0) (fun z_5 r_6 h_z_5 => (LkP.xc (lkp_fn_X2_ask K h_z_5 g_h0) (fun z_8 r_9 h_z_8 => (LkP.ret h_z_8)))))))))
theorem lkp_fn_X16_overLists_B26 {F : Nat} {sh : Nat → Nat × Nat} {n : Nat} {h0 : Nat} {z_9 : St} (K : Kp Q G) (h_z_9 : Q z_9) (g_h0 : G h0) : LkP Q (fn_X16_overLists_B26 F sh n h0 z_9) := by
  unfold fn_X16_overLists_B26
  exact (LkP.xc (lkp_fn_X16_isGood K h_z_9 g_h0) (fun z_10 r_11 h_z_10 => (LkP.ite (LkP.ret h_z_10) (LkP.xc (lkp_fn_X16_overList K h_z_10 g_h0) (fun z_14 _ h_z_14 => (LkP.ret h_z_14))))))
theorem lkp_fn_X16_overLists_B13 {F : Nat} {sh : Nat → Nat × Nat} {n : Nat} {h0 : Nat} {x0 : Int32} {z_5 : St} (K : Kp Q G) (h_z_5 : Q z_5) (g_h0 : G h0) : LkP Q (fn_X16_overLists_B13 F sh n h0 x0 z_5) := by
  unfold fn_X16_overLists_B13
  exact (LkP.xc (lkp_fn_X16_isGood K h_z_5 g_h0) (fun z_6 r_7 h_z_6 => (LkP.ite (lkp_fn_X16_overLists_B26 K h_z_6 g_h0) (LkP.xc (lkp_fn_X16_overList K h_z_6 g_h0) (fun z_17 _ h_z_17 => (lkp_fn_X16_overLists_B26 K h_z_17 g_h0))))))
theorem lkp_fn_X16_overLists {F : Nat} {sh : Nat → Nat × Nat} {n : Nat} {z : St} {h0 : Nat} {x0 : Int32} (K : Kp Q G) (h_z : Q z) (g_h0 : G h0) : LkP Q (fn_X16_overLists F sh n z h0 x0) := by
  unfold fn_X16_overLists
  exact (LkP.xg (LkP.xc (lkp_fn_X16_isGood K h_z g_h0) (fun z_1 r_2 h_z_1 => (LkP.ite (lkp_fn_X16_overLists_B13 K h_z_1 g_h0) (LkP.xc (lkp_fn_X16_overList K h_z_1 g_h0) (fun z_20 _ h_z_20 => (lkp_fn_X16_overLists_B13 K h_z_20 g_h0)))))))
theorem lkp_fn_X16_listOf {F : Nat} {sh : Nat → Nat × Nat} {n : Nat} {z : St} {h0 : Nat} {x0 : Int32} {x1 : Int32} (K : Kp Q G) (h_z : Q z) (g_h0 : G h0) : LkP Q (fn_X16_listOf F sh n z h0 x0 x1) := by
  unfold fn_X16_listOf
  exact (LkP.xg (LkP.ite (LkP.xl (fun k_3 q => have g_k_3 := K.2.2.2.2.2 _ _ _ _ h_z g_h0 q; (LkP.xg (LkP.ltv (fun v_5 => (LkP.ite (LkP.ret h_z) (LkP.xc (lkp_fn_X16_listEnd K h_z g_h0) (fun z_7 r_8 h_z_7 => (LkP.ret h_z_7))))))))) (LkP.xc (lkp_fn_X16_listAt K h_z g_h0) (fun z_10 r_11 h_z_10 => (LkP.ret h_z_10)))))
theorem lkp_fn_X2_storeResource {F : Nat} {sh : Nat → Nat × Nat} {n : Nat} {z : St} {h0 : Nat} {x0 : Int32} (K : Kp Q G) (h_z : Q z) (g_h0 : G h0) : LkP Q (fn_X2_storeResource F sh n z h0 x0) := by
  unfold fn_X2_storeResource
  exact (LkP.xg (LkP.xl (fun k_2 q => have g_k_2 := K.2.2.2.2.2 _ _ _ _ h_z g_h0 q; (LkP.xl (fun k_3 q => have g_k_3 := K.2.2.2.2.2 _ _ _ _ h_z g_h0 q; (LkP.xg (LkP.xl (fun k_5 q => have g_k_5 := K.2.2.2.2.2 _ _ _ _ h_z g_h0 q; (LkP.xg (LkP.xl (fun k_7 q => have g_k_7 := K.2.2.2.2.2 _ _ _ _ h_z g_h0 q; (LkP.xg (LkP.xg (LkP.xc (lkp_fn_X7_slotFor K h_z g_k_2) (fun z_9 r_10 h_z_9 => (LkP.ite (LkP.ret h_z_9) (LkP.xl (fun k_14 q => have g_k_14 := K.2.2.2.2.2 _ _ _ _ h_z_9 g_h0 q; (LkP.xg (LkP.xl (fun k_16 q => have g_k_16 := K.2.2.2.2.2 _ _ _ _ h_z_9 g_k_14 q; (LkP.xl (fun k_17 q => have g_k_17 := K.2.2.2.2.2 _ _ _ _ h_z_9 g_h0 q; (LkP.xl (fun k_18 q => have g_k_18 := K.2.2.2.2.2 _ _ _ _ h_z_9 g_h0 q; (LkP.xg (LkP.xl (fun k_20 q => have g_k_20 := K.2.2.2.2.2 _ _ _ _ h_z_9 g_h0 q; (LkP.xg (LkP.xc (lkp_fn_X1_store K h_z_9 g_k_17 g_k_20) (fun z_21 r_22 h_z_21 => (LkP.xg (LkP.lts (K.1 _ _ _ _ h_z_21 g_k_16) (fun z_27 h_z_27 => (LkP.ret h_z_27)))))))))))))))))))))))))))))))))))
theorem lkp_fn_X13_bears_L34 {F : Nat} {sh : Nat → Nat × Nat} {n : Nat} {x0 : Nat} {x1 : Int32} {h0 : Nat} {v_13 : Int32} (K : Kp Q G) (g_x0 : G x0) (g_h0 : G h0) : ∀ (f : Nat) (v1 : St) (v2 : Int32), Q v1 → LkP Q (fn_X13_bears_L34 F sh n x0 x1 h0 v_13 f v1 v2) := by
  intro f
  induction f with
  | zero => intros; exact LkP.none
  | succ f_16 ih =>
    intro z_15 p_14 h_z_15
    exact (LkP.xc (lkp_fn_X16_fieldsOf K h_z_15 g_x0) (fun z_17 r_18 h_z_17 => (LkP.ite (LkP.ret h_z_17) (LkP.xc (lkp_fn_X16_field K h_z_17 g_x0) (fun z_21 r_22 h_z_21 => (LkP.xc (lkp_fn_X13_abilitiesFor K h_z_21 g_h0) (fun z_24 r_25 h_z_24 => (LkP.ite (ih _ _ h_z_24 ) (LkP.ret h_z_24)))))))))
theorem lkp_fn_X13_bears_B29 {F : Nat} {sh : Nat → Nat × Nat} {n : Nat} {r_5 : Int32} {x0 : Nat} {x1 : Int32} {h0 : Nat} {z_12 : St} {p_11 : Int32} (K : Kp Q G) (h_z_12 : Q z_12) (g_x0 : G x0) (g_h0 : G h0) : LkP Q (fn_X13_bears_B29 F sh n r_5 x0 x1 h0 z_12 p_11) := by
  unfold fn_X13_bears_B29
  exact (LkP.ltv (fun v_13 => (lkp_fn_X13_bears_L34 K g_x0 g_h0 _ _ _ h_z_12 )))
theorem lkp_fn_X13_bears {F : Nat} {sh : Nat → Nat × Nat} {n : Nat} {z : St} {h0 : Nat} {x0 : Nat} {x1 : Int32} (K : Kp Q G) (h_z : Q z) (g_h0 : G h0) (g_x0 : G x0) : LkP Q (fn_X13_bears F sh n z h0 x0 x1) := by
  unfold fn_X13_bears
  exact (LkP.xg (LkP.lts (K.2.2.1 _ _ _ _ h_z g_h0 (some_q g_x0)) (fun z_3 h_z_3 => (LkP.xg (LkP.xc (lkp_fn_X16_abilitiesOf K h_z_3 g_x0) (fun z_4 r_5 h_z_4 => (LkP.xc (lkp_fn_X16_abilitiesOf K h_z_4 g_x0) (fun z_8 r_9 h_z_8 => (LkP.ite (lkp_fn_X13_bears_B29 K h_z_8 g_x0 g_h0) (lkp_fn_X13_bears_B29 K h_z_8 g_x0 g_h0))))))))))
theorem lkp_fn_X18_isThere_B72 {F : Nat} {sh : Nat → Nat × Nat} {n : Nat} {x1 : Int32} {z_8 : St} {p_7 : Int32} (K : Kp Q G) (h_z_8 : Q z_8) : LkP Q (fn_X18_isThere_B72 F sh n x1 z_8 p_7) := by
  unfold fn_X18_isThere_B72
  exact (LkP.ite (LkP.ret h_z_8) (LkP.ret h_z_8))
theorem lkp_fn_X18_isThere {F : Nat} {sh : Nat → Nat × Nat} {n : Nat} {z : St} {h0 : Nat} {x0 : Int32} {x1 : Int32} {x2 : Int32} (K : Kp Q G) (h_z : Q z) (g_h0 : G h0) : LkP Q (fn_X18_isThere F sh n z h0 x0 x1 x2) := by
  unfold fn_X18_isThere
  exact (LkP.ite (LkP.ite (LkP.ite (LkP.ret h_z) (LkP.ret h_z)) (LkP.ite (LkP.ret h_z) (LkP.ret h_z))) (LkP.xg (LkP.xc (lkp_fn_X18_findModule K h_z g_h0) (fun z_2 r_3 h_z_2 => (LkP.ite (LkP.ret h_z_2) (LkP.ite (LkP.xl (fun k_11 q => have g_k_11 := K.2.2.2.2.2 _ _ _ _ h_z_2 g_h0 q; (LkP.xg (LkP.xl (fun k_13 q => have g_k_13 := K.2.2.2.2.2 _ _ _ _ h_z_2 g_k_11 q; (LkP.xg (lkp_fn_X18_isThere_B72 K h_z_2))))))) (LkP.xl (fun k_15 q => have g_k_15 := K.2.2.2.2.2 _ _ _ _ h_z_2 g_h0 q; (LkP.xg (LkP.xl (fun k_17 q => have g_k_17 := K.2.2.2.2.2 _ _ _ _ h_z_2 g_k_15 q; (LkP.xg (lkp_fn_X18_isThere_B72 K h_z_2)))))))))))))
theorem lkp_fn_X4_refer {F : Nat} {sh : Nat → Nat × Nat} {n : Nat} {z : St} {h0 : Nat} {x0 : Int32} {x1 : Int32} (K : Kp Q G) (h_z : Q z) (g_h0 : G h0) : LkP Q (fn_X4_refer F sh n z h0 x0 x1) := by
  unfold fn_X4_refer
  exact (LkP.ite (LkP.ret h_z) (LkP.xg (LkP.xc (lkp_fn_X4_pop K h_z g_h0) (fun z_2 r_3 h_z_2 => (LkP.xc (lkp_fn_X4_target K h_z_2 g_h0) (fun z_6 r_7 h_z_6 => (LkP.ite (LkP.ite (LkP.xc (lkp_fn_X4_pushCopy K h_z_6 g_h0) (fun z_18 _ h_z_18 => (LkP.ret h_z_18))) (LkP.xl (fun k_11 q => have g_k_11 := K.2.2.2.2.2 _ _ _ _ h_z_6 g_h0 q; (LkP.xc (lkp_fn_X4_pop K h_z_6 g_h0) (fun z_12 r_13 h_z_12 => (LkP.xg (LkP.xc (lkp_fn_X1_assign K h_z_12 g_k_11) (fun z_15 _ h_z_15 => (LkP.ret h_z_15))))))))) (LkP.xl (fun k_20 q => have g_k_20 := K.2.2.2.2.2 _ _ _ _ h_z_6 g_h0 q; (LkP.xg (LkP.xl (fun k_22 q => have g_k_22 := K.2.2.2.2.2 _ _ _ _ h_z_6 g_k_20 q; (LkP.xl (fun k_23 q => have g_k_23 := K.2.2.2.2.2 _ _ _ _ h_z_6 g_h0 q; (LkP.xg (LkP.xc (lkp_fn_X1_child K h_z_6 g_k_23) (fun z_24 r_25 h_z_24 => (LkP.xg (LkP.lts (K.2.1 _ _ _ _ h_z_24 g_k_22) (fun z_30 h_z_30 => (LkP.xc (lkp_fn_X4_push K h_z_30 g_h0) (fun z_31 _ h_z_31 => (LkP.ret h_z_31)))))))))))))))))))))))
theorem lkp_fn_X16_isRound_B62 {F : Nat} {sh : Nat → Nat × Nat} {n : Nat} {p_15 : Int32} {ko40 : St → Int32 → Option (St × Int32)} {z_21 : St} (K : Kp Q G) (h_z_21 : Q z_21) (hko_ko40 : ∀ (w0 : St) (w1 : Int32), Q w0 → LkP Q (ko40 w0 w1)) : LkP Q (fn_X16_isRound_B62 F sh n p_15 ko40 z_21) := by
  unfold fn_X16_isRound_B62
  exact (hko_ko40 _ _ h_z_21 )
theorem lkp_fn_X16_isRound_L40 {F : Nat} {sh : Nat → Nat × Nat} {n : Nat} {h0 : Nat} {p_8 : Int32} {ko30 : St → Int32 → Option (St × Int32)} (K : Kp Q G) (g_h0 : G h0) (hko_ko30 : ∀ (w0 : St) (w1 : Int32), Q w0 → LkP Q (ko30 w0 w1)) : ∀ (f : Nat) (v1 : St) (v2 : Int32), Q v1 → LkP Q (fn_X16_isRound_L40 F sh n h0 p_8 ko30 f v1 v2) := by
  intro f
  induction f with
  | zero => intros; exact LkP.none
  | succ f_17 ih =>
    intro z_16 p_15 h_z_16
    exact (LkP.ite (hko_ko30 _ _ h_z_16 ) (LkP.xl (fun k_19 q => have g_k_19 := K.2.2.2.2.2 _ _ _ _ h_z_16 g_h0 q; (LkP.xg (LkP.ite (lkp_fn_X16_isRound_B62 K h_z_16 (fun z9 q3 hk_z9 => (ih _ _ hk_z9 ))) (LkP.xc (lkp_fn_X16_reach K h_z_16 g_h0) (fun z_23 _ h_z_23 => (lkp_fn_X16_isRound_B62 K h_z_23 (fun z9 q3 hk_z9 => (ih _ _ hk_z9 ))))))))))
theorem lkp_fn_X16_isRound_L30 {F : Nat} {sh : Nat → Nat × Nat} {n : Nat} {h0 : Nat} {x0 : Int32} (K : Kp Q G) (g_h0 : G h0) : ∀ (f : Nat) (v1 : St) (v2 : Int32), Q v1 → LkP Q (fn_X16_isRound_L30 F sh n h0 x0 f v1 v2) := by
  intro f
  induction f with
  | zero => intros; exact LkP.none
  | succ f_10 ih =>
    intro z_9 p_8 h_z_9
    exact (LkP.ite (LkP.xl (fun k_12 q => have g_k_12 := K.2.2.2.2.2 _ _ _ _ h_z_9 g_h0 q; (LkP.xg (LkP.xg (LkP.ret h_z_9))))) (lkp_fn_X16_isRound_L40 K g_h0 (fun z9 q2 hk_z9 => (ih _ _ hk_z9 )) _ _ _ h_z_9 ))
theorem lkp_fn_X16_isRound_L2 {F : Nat} {sh : Nat → Nat × Nat} {n : Nat} {h0 : Nat} {x0 : Int32} (K : Kp Q G) (g_h0 : G h0) : ∀ (f : Nat) (v1 : St) (v2 : Int32), Q v1 → LkP Q (fn_X16_isRound_L2 F sh n h0 x0 f v1 v2) := by
  intro f
  induction f with
  | zero => intros; exact LkP.none
  | succ f_3 ih =>
    intro z_2 p_1 h_z_2
    exact (LkP.xg (LkP.ite (LkP.xc (lkp_fn_X16_reach K h_z_2 g_h0) (fun z_6 _ h_z_6 => (lkp_fn_X16_isRound_L30 K g_h0 _ _ _ h_z_6 ))) (LkP.xl (fun k_25 q => have g_k_25 := K.2.2.2.2.2 _ _ _ _ h_z_2 g_h0 q; (LkP.xg (LkP.lts (K.1 _ _ _ _ h_z_2 g_k_25) (fun z_28 h_z_28 => (ih _ _ h_z_28 ))))))))
theorem lkp_fn_X16_isRound {F : Nat} {sh : Nat → Nat × Nat} {n : Nat} {z : St} {h0 : Nat} {x0 : Int32} (K : Kp Q G) (h_z : Q z) (g_h0 : G h0) : LkP Q (fn_X16_isRound F sh n z h0 x0) := by
  unfold fn_X16_isRound
  exact (lkp_fn_X16_isRound_L2 K g_h0 _ _ _ h_z )
theorem lkp_fn_X13_pack_B70 {F : Nat} {sh : Nat → Nat × Nat} {n : Nat} {p_2 : Int32} {ko14 : St → Int32 → Option (St × Unit)} {z_18 : St} (K : Kp Q G) (h_z_18 : Q z_18) (hko_ko14 : ∀ (w0 : St) (w1 : Int32), Q w0 → LkP Q (ko14 w0 w1)) : LkP Q (fn_X13_pack_B70 F sh n p_2 ko14 z_18) := by
  unfold fn_X13_pack_B70
  exact (hko_ko14 _ _ h_z_18 )
theorem lkp_fn_X13_pack_L14 {F : Nat} {sh : Nat → Nat × Nat} {n : Nat} {h0 : Nat} {x1 : Int32} {x0 : Int32} (K : Kp Q G) (g_h0 : G h0) : ∀ (f : Nat) (v1 : St) (v2 : Int32), Q v1 → LkP Q (fn_X13_pack_L14 F sh n h0 x1 x0 f v1 v2) := by
  intro f
  induction f with
  | zero => intros; exact LkP.none
  | succ f_4 ih =>
    intro z_3 p_2 h_z_3
    exact (LkP.xg (LkP.xl (fun k_6 q => have g_k_6 := K.2.2.2.2.2 _ _ _ _ h_z_3 g_h0 q; (LkP.xg (LkP.xc (lkp_fn_X16_fieldsOf K h_z_3 g_k_6) (fun z_7 r_8 h_z_7 => (LkP.ite (LkP.ite (LkP.ret h_z_7) (LkP.xc (lkp_fn_X13_structureType K h_z_7) (fun z_13 r_14 h_z_13 => (LkP.xc (lkp_fn_X13_give K h_z_13 g_h0) (fun z_16 _ h_z_16 => (LkP.ret h_z_16)))))) (LkP.ite (LkP.xl (fun k_20 q => have g_k_20 := K.2.2.2.2.2 _ _ _ _ h_z_7 g_h0 q; (LkP.xg (LkP.xc (lkp_fn_X16_field K h_z_7 g_k_20) (fun z_21 r_22 h_z_21 => (LkP.xc (lkp_fn_X13_give K h_z_21 g_h0) (fun z_25 _ h_z_25 => (lkp_fn_X13_pack_B70 K h_z_25 (fun z9 q3 hk_z9 => (ih _ _ hk_z9 )))))))))) (LkP.xl (fun k_27 q => have g_k_27 := K.2.2.2.2.2 _ _ _ _ h_z_7 g_h0 q; (LkP.xl (fun k_28 q => have g_k_28 := K.2.2.2.2.2 _ _ _ _ h_z_7 g_h0 q; (LkP.xg (LkP.xc (lkp_fn_X16_fieldsOf K h_z_7 g_k_28) (fun z_29 r_30 h_z_29 => (LkP.xg (LkP.xc (lkp_fn_X16_field K h_z_29 g_k_27) (fun z_33 r_34 h_z_33 => (LkP.xc (lkp_fn_X13_take_ K h_z_33 g_h0) (fun z_37 _ h_z_37 => (lkp_fn_X13_pack_B70 K h_z_37 (fun z9 q3 hk_z9 => (ih _ _ hk_z9 )))))))))))))))))))))))
theorem lkp_fn_X13_pack_B12 {F : Nat} {sh : Nat → Nat × Nat} {n : Nat} {h0 : Nat} {x1 : Int32} {x0 : Int32} {z_1 : St} (K : Kp Q G) (h_z_1 : Q z_1) (g_h0 : G h0) : LkP Q (fn_X13_pack_B12 F sh n h0 x1 x0 z_1) := by
  unfold fn_X13_pack_B12
  exact (lkp_fn_X13_pack_L14 K g_h0 _ _ _ h_z_1 )
theorem lkp_fn_X13_pack {F : Nat} {sh : Nat → Nat × Nat} {n : Nat} {z : St} {h0 : Nat} {x0 : Int32} {x1 : Int32} (K : Kp Q G) (h_z : Q z) (g_h0 : G h0) : LkP Q (fn_X13_pack F sh n z h0 x0 x1) := by
  unfold fn_X13_pack
  exact (LkP.ite (LkP.xc (lkp_fn_X13_structureType K h_z) (fun z_40 r_41 h_z_40 => (LkP.xg (LkP.xc (lkp_fn_X13_take_ K h_z_40 g_h0) (fun z_43 _ h_z_43 => (lkp_fn_X13_pack_B12 K h_z_43 g_h0)))))) (lkp_fn_X13_pack_B12 K h_z g_h0))
theorem lkp_fn_X18_branch_B69 {F : Nat} {sh : Nat → Nat × Nat} {n : Nat} {h0 : Nat} {x1 : Int32} {z_4 : St} {p_3 : Int32} (K : Kp Q G) (h_z_4 : Q z_4) (g_h0 : G h0) : LkP Q (fn_X18_branch_B69 F sh n h0 x1 z_4 p_3) := by
  unfold fn_X18_branch_B69
  exact (LkP.ite (LkP.ret h_z_4) (LkP.xg (LkP.xl (fun k_7 q => have g_k_7 := K.2.2.2.2.2 _ _ _ _ h_z_4 g_h0 q; (LkP.xg (LkP.lts (K.1 _ _ _ _ h_z_4 g_k_7) (fun z_10 h_z_10 => (LkP.ret h_z_10))))))))
theorem lkp_fn_X18_branch_B68 {F : Nat} {sh : Nat → Nat × Nat} {n : Nat} {h0 : Nat} {x1 : Int32} {z_20 : St} {p_19 : Int32} (K : Kp Q G) (h_z_20 : Q z_20) (g_h0 : G h0) : LkP Q (fn_X18_branch_B68 F sh n h0 x1 z_20 p_19) := by
  unfold fn_X18_branch_B68
  exact (lkp_fn_X18_branch_B69 K h_z_20 g_h0)
theorem lkp_fn_X18_branch_B67 {F : Nat} {sh : Nat → Nat × Nat} {n : Nat} {h0 : Nat} {x1 : Int32} {z_21 : St} (K : Kp Q G) (h_z_21 : Q z_21) (g_h0 : G h0) : LkP Q (fn_X18_branch_B67 F sh n h0 x1 z_21) := by
  unfold fn_X18_branch_B67
  exact (lkp_fn_X18_branch_B68 K h_z_21 g_h0)
theorem lkp_fn_X18_branch_B60 {F : Nat} {sh : Nat → Nat × Nat} {n : Nat} {p_27 : Int32} {h0 : Nat} {x1 : Int32} {z_30 : St} {p_29 : Int32} (K : Kp Q G) (h_z_30 : Q z_30) (g_h0 : G h0) : LkP Q (fn_X18_branch_B60 F sh n p_27 h0 x1 z_30 p_29) := by
  unfold fn_X18_branch_B60
  exact (LkP.ite (lkp_fn_X18_branch_B68 K h_z_30 g_h0) (lkp_fn_X18_branch_B67 K h_z_30 g_h0))
theorem lkp_fn_X18_branch_B50 {F : Nat} {sh : Nat → Nat × Nat} {n : Nat} {x0 : Int32} {h0 : Nat} {x1 : Int32} {z_28 : St} {p_27 : Int32} (K : Kp Q G) (h_z_28 : Q z_28) (g_h0 : G h0) : LkP Q (fn_X18_branch_B50 F sh n x0 h0 x1 z_28 p_27) := by
  unfold fn_X18_branch_B50
  exact (LkP.ite (lkp_fn_X18_branch_B60 K h_z_28 g_h0) (lkp_fn_X18_branch_B60 K h_z_28 g_h0))
theorem lkp_fn_X18_branch_B10 {F : Nat} {sh : Nat → Nat × Nat} {n : Nat} {x0 : Int32} {h0 : Nat} {x1 : Int32} {z_2 : St} {p_1 : Int32} (K : Kp Q G) (h_z_2 : Q z_2) (g_h0 : G h0) : LkP Q (fn_X18_branch_B10 F sh n x0 h0 x1 z_2 p_1) := by
  unfold fn_X18_branch_B10
  exact (LkP.ite (lkp_fn_X18_branch_B69 K h_z_2 g_h0) (LkP.xg (LkP.xc (lkp_fn_X18_take K h_z_2 g_h0) (fun z_12 r_13 h_z_12 => (LkP.xc (lkp_fn_X18_goesOn K h_z_12 g_h0) (fun z_16 r_17 h_z_16 => (LkP.ite (lkp_fn_X18_branch_B67 K h_z_16 g_h0) (LkP.xl (fun k_23 q => have g_k_23 := K.2.2.2.2.2 _ _ _ _ h_z_16 g_h0 q; (LkP.xg (LkP.xl (fun k_25 q => have g_k_25 := K.2.2.2.2.2 _ _ _ _ h_z_16 g_k_23 q; (LkP.xg (LkP.ite (lkp_fn_X18_branch_B50 K h_z_16 g_h0) (lkp_fn_X18_branch_B50 K h_z_16 g_h0)))))))))))))))
theorem lkp_fn_X18_branch {F : Nat} {sh : Nat → Nat × Nat} {n : Nat} {z : St} {h0 : Nat} {x0 : Int32} {x1 : Int32} (K : Kp Q G) (h_z : Q z) (g_h0 : G h0) : LkP Q (fn_X18_branch F sh n z h0 x0 x1) := by
  unfold fn_X18_branch
  exact (LkP.ite (lkp_fn_X18_branch_B10 K h_z g_h0) (lkp_fn_X18_branch_B10 K h_z g_h0))
theorem lkp_fn_X4_useLocal_B41 {F : Nat} {sh : Nat → Nat × Nat} {n : Nat} {x0 : Int32} {h0 : Nat} {v_5 : Int32} {x1 : Int32} {z_6 : St} (K : Kp Q G) (h_z_6 : Q z_6) (g_h0 : G h0) : LkP Q (fn_X4_useLocal_B41 F sh n x0 h0 v_5 x1 z_6) := by
  unfold fn_X4_useLocal_B41
  exact (LkP.ite (LkP.xc (lkp_fn_X4_pushCopy K h_z_6 g_h0) (fun z_17 _ h_z_17 => (LkP.ret h_z_17))) (LkP.ite (LkP.xl (fun k_11 q => have g_k_11 := K.2.2.2.2.2 _ _ _ _ h_z_6 g_h0 q; (LkP.xg (LkP.lts (K.1 _ _ _ _ h_z_6 g_k_11) (fun z_14 h_z_14 => (LkP.xc (lkp_fn_X4_push K h_z_14 g_h0) (fun z_15 _ h_z_15 => (LkP.ret h_z_15)))))))) (LkP.xc (lkp_fn_X4_pushNumber K h_z_6 g_h0) (fun z_9 _ h_z_9 => (LkP.ret h_z_9)))))
theorem lkp_fn_X4_useLocal {F : Nat} {sh : Nat → Nat × Nat} {n : Nat} {z : St} {h0 : Nat} {x0 : Int32} {x1 : Int32} (K : Kp Q G) (h_z : Q z) (g_h0 : G h0) : LkP Q (fn_X4_useLocal F sh n z h0 x0 x1) := by
  unfold fn_X4_useLocal
  exact (LkP.ite (LkP.xg (LkP.xl (fun k_25 q => have g_k_25 := K.2.2.2.2.2 _ _ _ _ h_z g_h0 q; (LkP.xc (lkp_fn_X4_pop K h_z g_h0) (fun z_26 r_27 h_z_26 => (LkP.xg (LkP.lts (K.1 _ _ _ _ h_z_26 g_k_25) (fun z_31 h_z_31 => (LkP.ret h_z_31))))))))) (LkP.xg (LkP.xl (fun k_3 q => have g_k_3 := K.2.2.2.2.2 _ _ _ _ h_z g_h0 q; (LkP.xg (LkP.ltv (fun v_5 => (LkP.ite (LkP.xl (fun k_20 q => have g_k_20 := K.2.2.2.2.2 _ _ _ _ h_z g_h0 q; (LkP.xg (LkP.lts (K.1 _ _ _ _ h_z g_k_20) (fun z_23 h_z_23 => (lkp_fn_X4_useLocal_B41 K h_z_23 g_h0)))))) (lkp_fn_X4_useLocal_B41 K h_z g_h0)))))))))
theorem lkp_fn_X18_unpack_L58 {F : Nat} {sh : Nat → Nat × Nat} {n : Nat} {h0 : Nat} (K : Kp Q G) (g_h0 : G h0) : ∀ (f : Nat) (v1 : St) (v2 : Int32), Q v1 → LkP Q (fn_X18_unpack_L58 F sh n h0 f v1 v2) := by
  intro f
  induction f with
  | zero => intros; exact LkP.none
  | succ f_20 ih =>
    intro z_19 p_18 h_z_19
    exact (LkP.ite (LkP.ret h_z_19) (LkP.xl (fun k_22 q => have g_k_22 := K.2.2.2.2.2 _ _ _ _ h_z_19 g_h0 q; (LkP.xg (LkP.xl (fun k_24 q => have g_k_24 := K.2.2.2.2.2 _ _ _ _ h_z_19 g_k_22 q; (LkP.xg (LkP.ltv (fun v_26 => (LkP.xl (fun k_27 q => have g_k_27 := K.2.2.2.2.2 _ _ _ _ h_z_19 g_h0 q; (LkP.xg (LkP.xl (fun k_29 q => have g_k_29 := K.2.2.2.2.2 _ _ _ _ h_z_19 g_k_27 q; (LkP.xg (LkP.lts (K.1 _ _ _ _ h_z_19 g_k_29) (fun z_32 h_z_32 => (LkP.xc (lkp_fn_X18_push K h_z_32 g_h0) (fun z_33 _ h_z_33 => (ih _ _ h_z_33 ))))))))))))))))))))
theorem lkp_fn_X18_unpack_B40 {F : Nat} {sh : Nat → Nat × Nat} {n : Nat} {h0 : Nat} {r_2 : Int32} {z_8 : St} (K : Kp Q G) (h_z_8 : Q z_8) (g_h0 : G h0) : LkP Q (fn_X18_unpack_B40 F sh n h0 r_2 z_8) := by
  unfold fn_X18_unpack_B40
  exact (LkP.xc (lkp_fn_X18_goesOn K h_z_8 g_h0) (fun z_9 r_10 h_z_9 => (LkP.ite (LkP.ret h_z_9) (LkP.xl (fun k_13 q => have g_k_13 := K.2.2.2.2.2 _ _ _ _ h_z_9 g_h0 q; (LkP.xg (LkP.xl (fun k_15 q => have g_k_15 := K.2.2.2.2.2 _ _ _ _ h_z_9 g_k_13 q; (LkP.xg (LkP.ltv (fun v_17 => (lkp_fn_X18_unpack_L58 K g_h0 _ _ _ h_z_9 ))))))))))))
theorem lkp_fn_X18_unpack {F : Nat} {sh : Nat → Nat × Nat} {n : Nat} {z : St} {h0 : Nat} {x0 : Int32} (K : Kp Q G) (h_z : Q z) (g_h0 : G h0) : LkP Q (fn_X18_unpack F sh n z h0 x0) := by
  unfold fn_X18_unpack
  exact (LkP.xg (LkP.xc (lkp_fn_X18_take K h_z g_h0) (fun z_1 r_2 h_z_1 => (LkP.xc (lkp_fn_X18_goesOn K h_z_1 g_h0) (fun z_5 r_6 h_z_5 => (LkP.ite (lkp_fn_X18_unpack_B40 K h_z_5 g_h0) (LkP.xl (fun k_36 q => have g_k_36 := K.2.2.2.2.2 _ _ _ _ h_z_5 g_h0 q; (LkP.xg (LkP.xl (fun k_38 q => have g_k_38 := K.2.2.2.2.2 _ _ _ _ h_z_5 g_k_36 q; (LkP.xg (LkP.xl (fun k_40 q => have g_k_40 := K.2.2.2.2.2 _ _ _ _ h_z_5 g_h0 q; (LkP.xg (LkP.xc (lkp_fn_X16_identity K h_z_5 g_k_40) (fun z_41 r_42 h_z_41 => (LkP.ite (lkp_fn_X18_unpack_B40 K h_z_41 g_h0) (LkP.xc (lkp_fn_X18_slip K h_z_41 g_h0) (fun z_46 _ h_z_46 => (lkp_fn_X18_unpack_B40 K h_z_46 g_h0)))))))))))))))))))))
theorem lkp_fn_X4_steer_B89 {F : Nat} {sh : Nat → Nat × Nat} {n : Nat} {p_18 : Int32} {h0 : Nat} {x1 : Int32} {z_21 : St} {p_20 : Int32} (K : Kp Q G) (h_z_21 : Q z_21) (g_h0 : G h0) : LkP Q (fn_X4_steer_B89 F sh n p_18 h0 x1 z_21 p_20) := by
  unfold fn_X4_steer_B89
  exact (LkP.ite (LkP.xl (fun k_23 q => have g_k_23 := K.2.2.2.2.2 _ _ _ _ h_z_21 g_h0 q; (LkP.xg (LkP.lts (K.1 _ _ _ _ h_z_21 g_k_23) (fun z_26 h_z_26 => (LkP.ret h_z_26)))))) (LkP.ret h_z_21))
theorem lkp_fn_X4_steer_B79 {F : Nat} {sh : Nat → Nat × Nat} {n : Nat} {x0 : Int32} {h0 : Nat} {x1 : Int32} {z_19 : St} {p_18 : Int32} (K : Kp Q G) (h_z_19 : Q z_19) (g_h0 : G h0) : LkP Q (fn_X4_steer_B79 F sh n x0 h0 x1 z_19 p_18) := by
  unfold fn_X4_steer_B79
  exact (LkP.ite (lkp_fn_X4_steer_B89 K h_z_19 g_h0) (lkp_fn_X4_steer_B89 K h_z_19 g_h0))
theorem lkp_fn_X4_steer {F : Nat} {sh : Nat → Nat × Nat} {n : Nat} {z : St} {h0 : Nat} {x0 : Int32} {x1 : Int32} (K : Kp Q G) (h_z : Q z) (g_h0 : G h0) : LkP Q (fn_X4_steer F sh n z h0 x0 x1) := by
  unfold fn_X4_steer
  exact (LkP.ite (LkP.xg (LkP.xc (lkp_fn_X4_pop K h_z g_h0) (fun z_42 r_43 h_z_42 => (LkP.ret h_z_42)))) (LkP.ite (LkP.xg (LkP.xc (lkp_fn_X4_giveBack K h_z g_h0) (fun z_39 _ h_z_39 => (LkP.ret h_z_39)))) (LkP.ite (LkP.xg (LkP.xl (fun k_30 q => have g_k_30 := K.2.2.2.2.2 _ _ _ _ h_z g_h0 q; (LkP.xg (LkP.xl (fun k_32 q => have g_k_32 := K.2.2.2.2.2 _ _ _ _ h_z g_k_30 q; (LkP.xc (lkp_fn_X4_popOf K h_z g_h0) (fun z_33 r_34 h_z_33 => (LkP.xg (LkP.xc (lkp_fn_X4_end K h_z_33 g_h0) (fun z_37 _ h_z_37 => (LkP.ret h_z_37)))))))))))) (LkP.ite (LkP.xg (LkP.xl (fun k_6 q => have g_k_6 := K.2.2.2.2.2 _ _ _ _ h_z g_h0 q; (LkP.xg (LkP.lts (K.1 _ _ _ _ h_z g_k_6) (fun z_9 h_z_9 => (LkP.ret h_z_9))))))) (LkP.xg (LkP.xl (fun k_11 q => have g_k_11 := K.2.2.2.2.2 _ _ _ _ h_z g_h0 q; (LkP.xg (LkP.xl (fun k_13 q => have g_k_13 := K.2.2.2.2.2 _ _ _ _ h_z g_k_11 q; (LkP.xc (lkp_fn_X4_popOf K h_z g_h0) (fun z_14 r_15 h_z_14 => (LkP.xg (LkP.ite (lkp_fn_X4_steer_B79 K h_z_14 g_h0) (lkp_fn_X4_steer_B79 K h_z_14 g_h0)))))))))))))))
theorem lkp_fn_X18_resource_L83 {F : Nat} {sh : Nat → Nat × Nat} {n : Nat} {h0 : Nat} (K : Kp Q G) (g_h0 : G h0) : ∀ (f : Nat) (v1 : St) (v2 : Int32), Q v1 → LkP Q (fn_X18_resource_L83 F sh n h0 f v1 v2) := by
  intro f
  induction f with
  | zero => intros; exact LkP.none
  | succ f_19 ih =>
    intro z_18 p_17 h_z_18
    exact (LkP.ite (LkP.ret h_z_18) (LkP.xl (fun k_21 q => have g_k_21 := K.2.2.2.2.2 _ _ _ _ h_z_18 g_h0 q; (LkP.xl (fun k_22 q => have g_k_22 := K.2.2.2.2.2 _ _ _ _ h_z_18 g_h0 q; (LkP.xg (LkP.xl (fun k_24 q => have g_k_24 := K.2.2.2.2.2 _ _ _ _ h_z_18 g_k_22 q; (LkP.xg (LkP.xg (LkP.lts (K.1 _ _ _ _ h_z_18 g_k_21) (fun z_28 h_z_28 => (ih _ _ h_z_28 )))))))))))))
theorem lkp_fn_X18_resource_B46 {F : Nat} {sh : Nat → Nat × Nat} {n : Nat} {h0 : Nat} {z_5 : St} {p_4 : Int32} (K : Kp Q G) (h_z_5 : Q z_5) (g_h0 : G h0) : LkP Q (fn_X18_resource_B46 F sh n h0 z_5 p_4) := by
  unfold fn_X18_resource_B46
  exact (LkP.ite (LkP.xl (fun k_7 q => have g_k_7 := K.2.2.2.2.2 _ _ _ _ h_z_5 g_h0 q; (LkP.xg (LkP.xc (lkp_fn_X12_begin K h_z_5 g_k_7) (fun z_8 _ h_z_8 => (LkP.xc (lkp_fn_X18_addBytes K h_z_8 g_h0) (fun z_11 _ h_z_11 => (LkP.xl (fun k_13 q => have g_k_13 := K.2.2.2.2.2 _ _ _ _ h_z_11 g_h0 q; (LkP.xg (LkP.lts (K.1 _ _ _ _ h_z_11 g_h0) (fun z_16 h_z_16 => (lkp_fn_X18_resource_L83 K g_h0 _ _ _ h_z_16 ))))))))))))) (LkP.ret h_z_5))
theorem lkp_fn_X18_resource_B29 {F : Nat} {sh : Nat → Nat × Nat} {n : Nat} {h0 : Nat} {z_29 : St} (K : Kp Q G) (h_z_29 : Q z_29) (g_h0 : G h0) : LkP Q (fn_X18_resource_B29 F sh n h0 z_29) := by
  unfold fn_X18_resource_B29
  exact (lkp_fn_X18_resource_B46 K h_z_29 g_h0)
theorem lkp_fn_X18_resource {F : Nat} {sh : Nat → Nat × Nat} {n : Nat} {z : St} {h0 : Nat} {x0 : Int64} {x1 : Int32} {x2 : Int32} (K : Kp Q G) (h_z : Q z) (g_h0 : G h0) : LkP Q (fn_X18_resource F sh n z h0 x0 x1 x2) := by
  unfold fn_X18_resource
  exact (LkP.xg (LkP.lts (K.1 _ _ _ _ h_z g_h0) (fun z_3 h_z_3 => (LkP.ite (lkp_fn_X18_resource_B29 K h_z_3 g_h0) (LkP.ite (lkp_fn_X18_resource_B29 K h_z_3 g_h0) (LkP.ite (lkp_fn_X18_resource_B29 K h_z_3 g_h0) (LkP.ite (LkP.xc (lkp_fn_X18_findResource K h_z_3 g_h0) (fun z_34 r_35 h_z_34 => (lkp_fn_X18_resource_B46 K h_z_34 g_h0))) (lkp_fn_X18_resource_B29 K h_z_3 g_h0))))))))
theorem lkp_fn_X11_misfitOf {F : Nat} {sh : Nat → Nat × Nat} {n : Nat} {z : St} {h0 : Nat} {x0 : Nat} {x1 : Nat} (K : Kp Q G) (h_z : Q z) (g_h0 : G h0) (g_x0 : G x0) (g_x1 : G x1) : LkP Q (fn_X11_misfitOf F sh n z h0 x0 x1) := by
  unfold fn_X11_misfitOf
  exact (LkP.xg (LkP.lts (K.1 _ _ _ _ h_z g_x1) (fun z_3 h_z_3 => (LkP.xg (LkP.ite (LkP.ret h_z_3) (LkP.xg (LkP.xl (fun k_7 q => have g_k_7 := K.2.2.2.2.2 _ _ _ _ h_z_3 g_h0 q; (LkP.xg (LkP.calo (lkp_fn_X7_findProgram K h_z_3 g_k_7) (fun z_8 r_9 h_z_8 o_r_9 => (LkP.xn (LkP.xl (fun k_13 q => have g_k_13 := K.2.2.2.2.2 _ _ _ _ h_z_8 g_h0 q; (LkP.xc (lkp_fn_X5_strangeStructure K h_z_8 g_x0 g_k_13) (fun z_14 r_15 h_z_14 => (LkP.lts (K.1 _ _ _ _ h_z_14 g_x1) (fun z_18 h_z_18 => (LkP.ite (LkP.xl (fun k_20 q => have g_k_20 := K.2.2.2.2.2 _ _ _ _ h_z_18 g_h0 q; (LkP.xc (lkp_fn_X5_strangeFunction K h_z_18 g_x0 g_k_20) (fun z_21 r_22 h_z_21 => (LkP.lts (K.1 _ _ _ _ h_z_21 g_x1) (fun z_25 h_z_25 => (LkP.ite (LkP.xc (lkp_fn_X5_weakStructure K h_z_25 g_x0) (fun z_27 r_28 h_z_27 => (LkP.lts (K.1 _ _ _ _ h_z_27 g_x1) (fun z_31 h_z_31 => (LkP.ite (LkP.xl (fun k_33 q => have g_k_33 := K.2.2.2.2.2 _ _ _ _ h_z_31 g_h0 q; (LkP.xc (lkp_fn_X5_measure K h_z_31 g_x0 g_k_33) (fun z_34 _ h_z_34 => (LkP.xc (lkp_fn_X5_deepStructure K h_z_34 g_x0) (fun z_36 r_37 h_z_36 => (LkP.lts (K.1 _ _ _ _ h_z_36 g_x1) (fun z_40 h_z_40 => (LkP.ite (LkP.ret h_z_40) (LkP.ret h_z_40)))))))))) (LkP.ret h_z_31)))))) (LkP.ret h_z_25)))))))) (LkP.ret h_z_18)))))))) (fun k_12 q => have g_k_12 := o_r_9 _ q; (LkP.ret h_z_8))))))))))))))
theorem lkp_fn_X13_back {F : Nat} {sh : Nat → Nat × Nat} {n : Nat} {z : St} {h0 : Nat} {x0 : Int32} {x1 : Int32} (K : Kp Q G) (h_z : Q z) (g_h0 : G h0) : LkP Q (fn_X13_back F sh n z h0 x0 x1) := by
  unfold fn_X13_back
  exact (LkP.xg (LkP.xl (fun k_2 q => have g_k_2 := K.2.2.2.2.2 _ _ _ _ h_z g_h0 q; (LkP.xg (LkP.ite (LkP.xl (fun k_5 q => have g_k_5 := K.2.2.2.2.2 _ _ _ _ h_z g_h0 q; (LkP.xg (LkP.ite (LkP.xc (lkp_fn_X13_need K h_z g_h0) (fun z_8 _ h_z_8 => (LkP.ret h_z_8))) (LkP.xl (fun k_10 q => have g_k_10 := K.2.2.2.2.2 _ _ _ _ h_z g_h0 q; (LkP.xg (LkP.xc (lkp_fn_X13_has K h_z g_h0) (fun z_12 r_13 h_z_12 => (LkP.ite (LkP.xc (lkp_fn_X13_need K h_z_12 g_h0) (fun z_16 _ h_z_16 => (LkP.ret h_z_16))) (LkP.xc (lkp_fn_X13_need K h_z_12 g_h0) (fun z_18 _ h_z_18 => (LkP.ret h_z_18))))))))))))) (LkP.xl (fun k_20 q => have g_k_20 := K.2.2.2.2.2 _ _ _ _ h_z g_h0 q; (LkP.xg (LkP.ite (LkP.xc (lkp_fn_X13_need K h_z g_h0) (fun z_23 _ h_z_23 => (LkP.ret h_z_23))) (LkP.xl (fun k_25 q => have g_k_25 := K.2.2.2.2.2 _ _ _ _ h_z g_h0 q; (LkP.xg (LkP.xl (fun k_27 q => have g_k_27 := K.2.2.2.2.2 _ _ _ _ h_z g_h0 q; (LkP.xg (LkP.ite (LkP.xl (fun k_32 q => have g_k_32 := K.2.2.2.2.2 _ _ _ _ h_z g_h0 q; (LkP.xg (LkP.ite (LkP.xc (lkp_fn_X13_need K h_z g_h0) (fun z_35 _ h_z_35 => (LkP.ret h_z_35))) (LkP.xl (fun k_37 q => have g_k_37 := K.2.2.2.2.2 _ _ _ _ h_z g_h0 q; (LkP.xg (LkP.ite (LkP.xc (lkp_fn_X13_need K h_z g_h0) (fun z_40 _ h_z_40 => (LkP.ret h_z_40))) (LkP.xc (lkp_fn_X13_need K h_z g_h0) (fun z_42 _ h_z_42 => (LkP.ret h_z_42))))))))))) (LkP.xc (lkp_fn_X13_need K h_z g_h0) (fun z_30 _ h_z_30 => (LkP.ret h_z_30)))))))))))))))))))
theorem lkp_fn_X18_pack_L69 {F : Nat} {sh : Nat → Nat × Nat} {n : Nat} {h0 : Nat} {r_4 : Int32} {r_21 : Int32} (K : Kp Q G) (g_h0 : G h0) : ∀ (f : Nat) (v1 : St) (v2 : Int32), Q v1 → LkP Q (fn_X18_pack_L69 F sh n h0 r_4 r_21 f v1 v2) := by
  intro f
  induction f with
  | zero => intros; exact LkP.none
  | succ f_27 ih =>
    intro z_26 p_25 h_z_26
    exact (LkP.ite (LkP.lts (K.1 _ _ _ _ h_z_26 g_h0) (fun z_30 h_z_30 => (LkP.xc (lkp_fn_X18_push K h_z_30 g_h0) (fun z_31 _ h_z_31 => (LkP.ret h_z_31))))) (LkP.xl (fun k_33 q => have g_k_33 := K.2.2.2.2.2 _ _ _ _ h_z_26 g_h0 q; (LkP.xl (fun k_34 q => have g_k_34 := K.2.2.2.2.2 _ _ _ _ h_z_26 g_h0 q; (LkP.xg (LkP.xg (LkP.xc (lkp_fn_X15_add K h_z_26 g_k_33) (fun z_36 _ h_z_36 => (ih _ _ h_z_36 ))))))))))
theorem lkp_fn_X18_pack_B33 {F : Nat} {sh : Nat → Nat × Nat} {n : Nat} {h0 : Nat} {x0 : Int32} {r_4 : Int32} {z_9 : St} (K : Kp Q G) (h_z_9 : Q z_9) (g_h0 : G h0) : LkP Q (fn_X18_pack_B33 F sh n h0 x0 r_4 z_9) := by
  unfold fn_X18_pack_B33
  exact (LkP.xc (lkp_fn_X18_goesOn K h_z_9 g_h0) (fun z_10 r_11 h_z_10 => (LkP.ite (LkP.ret h_z_10) (LkP.xl (fun k_14 q => have g_k_14 := K.2.2.2.2.2 _ _ _ _ h_z_10 g_h0 q; (LkP.xl (fun k_15 q => have g_k_15 := K.2.2.2.2.2 _ _ _ _ h_z_10 g_h0 q; (LkP.xg (LkP.xc (lkp_fn_X16_identity K h_z_10 g_k_15) (fun z_16 r_17 h_z_16 => (LkP.xg (LkP.xc (lkp_fn_X15_make K h_z_16 g_k_14) (fun z_20 r_21 h_z_20 => (LkP.ltv (fun v_24 => (lkp_fn_X18_pack_L69 K g_h0 _ _ _ h_z_20 ))))))))))))))))
theorem lkp_fn_X18_pack {F : Nat} {sh : Nat → Nat × Nat} {n : Nat} {z : St} {h0 : Nat} {x0 : Int32} (K : Kp Q G) (h_z : Q z) (g_h0 : G h0) : LkP Q (fn_X18_pack F sh n z h0 x0) := by
  unfold fn_X18_pack
  exact (LkP.xg (LkP.xl (fun k_2 q => have g_k_2 := K.2.2.2.2.2 _ _ _ _ h_z g_h0 q; (LkP.xg (LkP.xc (lkp_fn_X16_fieldsOf K h_z g_k_2) (fun z_3 r_4 h_z_3 => (LkP.xl (fun k_7 q => have g_k_7 := K.2.2.2.2.2 _ _ _ _ h_z_3 g_h0 q; (LkP.xg (LkP.ite (lkp_fn_X18_pack_B33 K h_z_3 g_h0) (LkP.xc (lkp_fn_X18_slip K h_z_3 g_h0) (fun z_40 _ h_z_40 => (lkp_fn_X18_pack_B33 K h_z_40 g_h0)))))))))))))
theorem lkp_fn_X18_shift {F : Nat} {sh : Nat → Nat × Nat} {n : Nat} {z : St} {h0 : Nat} {x0 : Int32} (K : Kp Q G) (h_z : Q z) (g_h0 : G h0) : LkP Q (fn_X18_shift F sh n z h0 x0) := by
  unfold fn_X18_shift
  exact (LkP.xg (LkP.xc (lkp_fn_X18_take K h_z g_h0) (fun z_1 r_2 h_z_1 => (LkP.xc (lkp_fn_X18_takeAny K h_z_1 g_h0) (fun z_5 r_6 h_z_5 => (LkP.xc (lkp_fn_X18_goesOn K h_z_5 g_h0) (fun z_8 r_9 h_z_8 => (LkP.ite (LkP.ret h_z_8) (LkP.xl (fun k_12 q => have g_k_12 := K.2.2.2.2.2 _ _ _ _ h_z_8 g_h0 q; (LkP.xg (LkP.xl (fun k_14 q => have g_k_14 := K.2.2.2.2.2 _ _ _ _ h_z_8 g_k_12 q; (LkP.xg (LkP.xc (lkp_fn_X18_bitsOf K h_z_8) (fun z_16 r_17 h_z_16 => (LkP.xl (fun k_19 q => have g_k_19 := K.2.2.2.2.2 _ _ _ _ h_z_16 g_h0 q; (LkP.xg (LkP.xl (fun k_21 q => have g_k_21 := K.2.2.2.2.2 _ _ _ _ h_z_16 g_k_19 q; (LkP.xg (LkP.ite (LkP.xl (fun k_24 q => have g_k_24 := K.2.2.2.2.2 _ _ _ _ h_z_16 g_h0 q; (LkP.xl (fun k_25 q => have g_k_25 := K.2.2.2.2.2 _ _ _ _ h_z_16 g_h0 q; (LkP.xg (LkP.xl (fun k_27 q => have g_k_27 := K.2.2.2.2.2 _ _ _ _ h_z_16 g_k_25 q; (LkP.xg (LkP.xl (fun k_29 q => have g_k_29 := K.2.2.2.2.2 _ _ _ _ h_z_16 g_h0 q; (LkP.xg (LkP.xl (fun k_31 q => have g_k_31 := K.2.2.2.2.2 _ _ _ _ h_z_16 g_k_29 q; (LkP.xg (LkP.xl (fun k_33 q => have g_k_33 := K.2.2.2.2.2 _ _ _ _ h_z_16 g_h0 q; (LkP.xg (LkP.xl (fun k_35 q => have g_k_35 := K.2.2.2.2.2 _ _ _ _ h_z_16 g_k_33 q; (LkP.xg (LkP.xg (LkP.xc (lkp_fn_X17_shift K h_z_16 g_k_24) (fun z_37 _ h_z_37 => (LkP.xl (fun k_40 q => have g_k_40 := K.2.2.2.2.2 _ _ _ _ h_z_37 g_h0 q; (LkP.xg (LkP.xl (fun k_42 q => have g_k_42 := K.2.2.2.2.2 _ _ _ _ h_z_37 g_k_40 q; (LkP.xg (LkP.xl (fun k_44 q => have g_k_44 := K.2.2.2.2.2 _ _ _ _ h_z_37 g_h0 q; (LkP.xg (LkP.xl (fun k_46 q => have g_k_46 := K.2.2.2.2.2 _ _ _ _ h_z_37 g_h0 q; (LkP.xg (LkP.xc (lkp_fn_X18_make K h_z_37 g_h0) (fun z_48 _ h_z_48 => (LkP.ret h_z_48)))))))))))))))))))))))))))))))))))))) (LkP.xc (lkp_fn_X18_end K h_z_16 g_h0) (fun z_50 _ h_z_50 => (LkP.ret h_z_50))))))))))))))))))))))))))
theorem lkp_fn_X11_refusalOf {F : Nat} {sh : Nat → Nat × Nat} {n : Nat} {z : St} {h0 : Nat} {x0 : Nat} (K : Kp Q G) (h_z : Q z) (g_h0 : G h0) (g_x0 : G x0) : LkP Q (fn_X11_refusalOf F sh n z h0 x0) := by
  unfold fn_X11_refusalOf
  exact (LkP.xg (LkP.xl (fun k_2 q => have g_k_2 := K.2.2.2.2.2 _ _ _ _ h_z g_h0 q; (LkP.xg (LkP.xg (LkP.xc (lkp_fn_X7_findAccount K h_z g_k_2) (fun z_4 r_5 h_z_4 => (LkP.ite (LkP.xl (fun k_9 q => have g_k_9 := K.2.2.2.2.2 _ _ _ _ h_z_4 g_h0 q; (LkP.xg (LkP.xl (fun k_11 q => have g_k_11 := K.2.2.2.2.2 _ _ _ _ h_z_4 g_k_9 q; (LkP.xg (LkP.ite (LkP.xl (fun k_14 q => have g_k_14 := K.2.2.2.2.2 _ _ _ _ h_z_4 g_h0 q; (LkP.xg (LkP.xl (fun k_16 q => have g_k_16 := K.2.2.2.2.2 _ _ _ _ h_z_4 g_k_14 q; (LkP.xg (LkP.ite (LkP.ite (LkP.ret h_z_4) (LkP.xl (fun k_20 q => have g_k_20 := K.2.2.2.2.2 _ _ _ _ h_z_4 g_h0 q; (LkP.xg (LkP.calo (lkp_fn_X7_findProgram K h_z_4 g_k_20) (fun z_21 r_22 h_z_21 o_r_22 => (LkP.xn (LkP.ret h_z_21) (fun k_25 q => have g_k_25 := o_r_22 _ q; (LkP.xg (LkP.ite (LkP.xc (lkp_fn_X5_flags K h_z_21 g_k_25) (fun z_28 r_29 h_z_28 => (LkP.ite (LkP.ret h_z_28) (LkP.xc (lkp_fn_X8_fits K h_z_28 g_x0 g_k_25) (fun z_32 r_33 h_z_32 => (LkP.ite (LkP.ret h_z_32) (LkP.xc (lkp_fn_X5_givesPlain K h_z_32 g_k_25) (fun z_36 r_37 h_z_36 => (LkP.ite (LkP.ret h_z_36) (LkP.ret h_z_36)))))))))) (LkP.ret h_z_21))))))))))) (LkP.ret h_z_4)))))))) (LkP.ret h_z_4)))))))) (LkP.ret h_z_4)))))))))
theorem lkp_fn_X13_meet_B97 {F : Nat} {sh : Nat → Nat × Nat} {n : Nat} {k_18 : Nat} {x0 : Int32} {h0 : Nat} {p_12 : Int32} {x1 : Int32} {z_20 : St} {p_19 : Int64} (K : Kp Q G) (h_z_20 : Q z_20) (g_k_18 : G k_18) (g_h0 : G h0) : LkP Q (fn_X13_meet_B97 F sh n k_18 x0 h0 p_12 x1 z_20 p_19) := by
  unfold fn_X13_meet_B97
  exact (LkP.xg (LkP.lts (K.2.1 _ _ _ _ h_z_20 g_k_18) (fun z_23 h_z_23 => (LkP.xl (fun k_24 q => have g_k_24 := K.2.2.2.2.2 _ _ _ _ h_z_23 g_h0 q; (LkP.ite (LkP.xg (LkP.lts (K.1 _ _ _ _ h_z_23 g_k_24) (fun z_28 h_z_28 => (LkP.ret h_z_28)))) (LkP.xl (fun k_29 q => have g_k_29 := K.2.2.2.2.2 _ _ _ _ h_z_23 g_h0 q; (LkP.xg (LkP.ite (LkP.xl (fun k_35 q => have g_k_35 := K.2.2.2.2.2 _ _ _ _ h_z_23 g_h0 q; (LkP.xg (LkP.ite (LkP.xg (LkP.lts (K.1 _ _ _ _ h_z_23 g_k_24) (fun z_40 h_z_40 => (LkP.ret h_z_40)))) (LkP.xg (LkP.lts (K.1 _ _ _ _ h_z_23 g_k_24) (fun z_43 h_z_43 => (LkP.ret h_z_43)))))))) (LkP.xg (LkP.lts (K.1 _ _ _ _ h_z_23 g_k_24) (fun z_34 h_z_34 => (LkP.ret h_z_34))))))))))))))
theorem lkp_fn_X13_meet_B63 {F : Nat} {sh : Nat → Nat × Nat} {n : Nat} {h0 : Nat} {x0 : Int32} {x1 : Int32} {z_13 : St} {p_12 : Int32} (K : Kp Q G) (h_z_13 : Q z_13) (g_h0 : G h0) : LkP Q (fn_X13_meet_B63 F sh n h0 x0 x1 z_13 p_12) := by
  unfold fn_X13_meet_B63
  exact (LkP.xl (fun k_14 q => have g_k_14 := K.2.2.2.2.2 _ _ _ _ h_z_13 g_h0 q; (LkP.xg (LkP.lts (K.1 _ _ _ _ h_z_13 g_k_14) (fun z_17 h_z_17 => (LkP.xl (fun k_18 q => have g_k_18 := K.2.2.2.2.2 _ _ _ _ h_z_17 g_h0 q; (LkP.ite (lkp_fn_X13_meet_B97 K h_z_17 g_k_18 g_h0) (LkP.xl (fun k_45 q => have g_k_45 := K.2.2.2.2.2 _ _ _ _ h_z_17 g_h0 q; (LkP.xg (LkP.xl (fun k_47 q => have g_k_47 := K.2.2.2.2.2 _ _ _ _ h_z_17 g_h0 q; (LkP.xg (lkp_fn_X13_meet_B97 K h_z_17 g_k_18 g_h0)))))))))))))))
theorem lkp_fn_X13_meet_B62 {F : Nat} {sh : Nat → Nat × Nat} {n : Nat} {h0 : Nat} {x0 : Int32} {x1 : Int32} {z_49 : St} (K : Kp Q G) (h_z_49 : Q z_49) (g_h0 : G h0) : LkP Q (fn_X13_meet_B62 F sh n h0 x0 x1 z_49) := by
  unfold fn_X13_meet_B62
  exact (lkp_fn_X13_meet_B63 K h_z_49 g_h0)
theorem lkp_fn_X13_meet_B35 {F : Nat} {sh : Nat → Nat × Nat} {n : Nat} {h0 : Nat} {x0 : Int32} {x1 : Int32} {z_7 : St} {p_6 : Int32} (K : Kp Q G) (h_z_7 : Q z_7) (g_h0 : G h0) : LkP Q (fn_X13_meet_B35 F sh n h0 x0 x1 z_7 p_6) := by
  unfold fn_X13_meet_B35
  exact (LkP.xc (lkp_fn_X13_need K h_z_7 g_h0) (fun z_8 _ h_z_8 => (LkP.xl (fun k_10 q => have g_k_10 := K.2.2.2.2.2 _ _ _ _ h_z_8 g_h0 q; (LkP.xg (LkP.ite (lkp_fn_X13_meet_B62 K h_z_8 g_h0) (LkP.xl (fun k_51 q => have g_k_51 := K.2.2.2.2.2 _ _ _ _ h_z_8 g_h0 q; (LkP.xg (LkP.ite (lkp_fn_X13_meet_B62 K h_z_8 g_h0) (lkp_fn_X13_meet_B63 K h_z_8 g_h0)))))))))))
theorem lkp_fn_X13_meet_B30 {F : Nat} {sh : Nat → Nat × Nat} {n : Nat} {h0 : Nat} {x0 : Int32} {x1 : Int32} {z_54 : St} (K : Kp Q G) (h_z_54 : Q z_54) (g_h0 : G h0) : LkP Q (fn_X13_meet_B30 F sh n h0 x0 x1 z_54) := by
  unfold fn_X13_meet_B30
  exact (lkp_fn_X13_meet_B35 K h_z_54 g_h0)
theorem lkp_fn_X13_meet {F : Nat} {sh : Nat → Nat × Nat} {n : Nat} {z : St} {h0 : Nat} {x0 : Int32} {x1 : Int32} (K : Kp Q G) (h_z : Q z) (g_h0 : G h0) : LkP Q (fn_X13_meet F sh n z h0 x0 x1) := by
  unfold fn_X13_meet
  exact (LkP.xg (LkP.xl (fun k_2 q => have g_k_2 := K.2.2.2.2.2 _ _ _ _ h_z g_h0 q; (LkP.xg (LkP.xl (fun k_4 q => have g_k_4 := K.2.2.2.2.2 _ _ _ _ h_z g_h0 q; (LkP.xg (LkP.ite (lkp_fn_X13_meet_B30 K h_z g_h0) (LkP.xl (fun k_56 q => have g_k_56 := K.2.2.2.2.2 _ _ _ _ h_z g_h0 q; (LkP.xg (LkP.xc (lkp_fn_X13_has K h_z g_h0) (fun z_58 r_59 h_z_58 => (LkP.ite (lkp_fn_X13_meet_B35 K h_z_58 g_h0) (lkp_fn_X13_meet_B30 K h_z_58 g_h0)))))))))))))))
theorem lkp_fn_X18_digest_L106 {F : Nat} {sh : Nat → Nat × Nat} {n : Nat} {h0 : Nat} {r_37 : Int32} (K : Kp Q G) (g_h0 : G h0) : ∀ (f : Nat) (v1 : St) (v2 : Int32), Q v1 → LkP Q (fn_X18_digest_L106 F sh n h0 r_37 f v1 v2) := by
  intro f
  induction f with
  | zero => intros; exact LkP.none
  | succ f_42 ih =>
    intro z_41 p_40 h_z_41
    exact (LkP.ite (LkP.xc (lkp_fn_X18_push K h_z_41 g_h0) (fun z_44 _ h_z_44 => (LkP.ret h_z_44))) (LkP.xl (fun k_46 q => have g_k_46 := K.2.2.2.2.2 _ _ _ _ h_z_41 g_h0 q; (LkP.xl (fun k_47 q => have g_k_47 := K.2.2.2.2.2 _ _ _ _ h_z_41 g_h0 q; (LkP.xl (fun k_48 q => have g_k_48 := K.2.2.2.2.2 _ _ _ _ h_z_41 g_h0 q; (LkP.xg (LkP.xc (lkp_fn_X12_byteOf K h_z_41 g_k_48) (fun z_49 r_50 h_z_49 => (LkP.xg (LkP.xc (lkp_fn_X15_make K h_z_49 g_k_47) (fun z_53 r_54 h_z_53 => (LkP.xg (LkP.xc (lkp_fn_X15_add K h_z_53 g_k_46) (fun z_57 _ h_z_57 => (ih _ _ h_z_57 )))))))))))))))))
theorem lkp_fn_X18_digest_L50 {F : Nat} {sh : Nat → Nat × Nat} {n : Nat} {h0 : Nat} (K : Kp Q G) (g_h0 : G h0) : ∀ (f : Nat) (v1 : St) (v2 : Int32), Q v1 → LkP Q (fn_X18_digest_L50 F sh n h0 f v1 v2) := by
  intro f
  induction f with
  | zero => intros; exact LkP.none
  | succ f_29 ih =>
    intro z_28 p_27 h_z_28
    exact (LkP.ite (LkP.xl (fun k_31 q => have g_k_31 := K.2.2.2.2.2 _ _ _ _ h_z_28 g_h0 q; (LkP.xg (LkP.xc (lkp_fn_X12_end K h_z_28 g_k_31) (fun z_32 _ h_z_32 => (LkP.xl (fun k_35 q => have g_k_35 := K.2.2.2.2.2 _ _ _ _ h_z_32 g_h0 q; (LkP.xg (LkP.xc (lkp_fn_X15_make K h_z_32 g_k_35) (fun z_36 r_37 h_z_36 => (lkp_fn_X18_digest_L106 K g_h0 _ _ _ h_z_36 ))))))))))) (LkP.xl (fun k_60 q => have g_k_60 := K.2.2.2.2.2 _ _ _ _ h_z_28 g_h0 q; (LkP.xl (fun k_61 q => have g_k_61 := K.2.2.2.2.2 _ _ _ _ h_z_28 g_h0 q; (LkP.xg (LkP.xl (fun k_63 q => have g_k_63 := K.2.2.2.2.2 _ _ _ _ h_z_28 g_k_61 q; (LkP.xg (LkP.xg (LkP.xc (lkp_fn_X12_add K h_z_28 g_k_60) (fun z_65 _ h_z_65 => (LkP.xl (fun k_68 q => have g_k_68 := K.2.2.2.2.2 _ _ _ _ h_z_65 g_h0 q; (LkP.xg (LkP.xl (fun k_70 q => have g_k_70 := K.2.2.2.2.2 _ _ _ _ h_z_65 g_k_68 q; (LkP.xg (LkP.ltv (fun v_72 => (ih _ _ h_z_65 )))))))))))))))))))))
theorem lkp_fn_X18_digest {F : Nat} {sh : Nat → Nat × Nat} {n : Nat} {z : St} {h0 : Nat} (K : Kp Q G) (h_z : Q z) (g_h0 : G h0) : LkP Q (fn_X18_digest F sh n z h0) := by
  unfold fn_X18_digest
  exact (LkP.xg (LkP.xc (lkp_fn_X18_take K h_z g_h0) (fun z_1 r_2 h_z_1 => (LkP.xc (lkp_fn_X18_goesOn K h_z_1 g_h0) (fun z_5 r_6 h_z_5 => (LkP.ite (LkP.ret h_z_5) (LkP.xl (fun k_9 q => have g_k_9 := K.2.2.2.2.2 _ _ _ _ h_z_5 g_h0 q; (LkP.xg (LkP.xc (lkp_fn_X15_count K h_z_5 g_k_9) (fun z_10 r_11 h_z_10 => (LkP.xc (lkp_fn_X18_spend K h_z_10 g_h0) (fun z_14 r_15 h_z_14 => (LkP.ite (LkP.ret h_z_14) (LkP.xl (fun k_18 q => have g_k_18 := K.2.2.2.2.2 _ _ _ _ h_z_14 g_h0 q; (LkP.xg (LkP.xc (lkp_fn_X12_begin K h_z_14 g_k_18) (fun z_19 _ h_z_19 => (LkP.xl (fun k_22 q => have g_k_22 := K.2.2.2.2.2 _ _ _ _ h_z_19 g_h0 q; (LkP.xg (LkP.xl (fun k_24 q => have g_k_24 := K.2.2.2.2.2 _ _ _ _ h_z_19 g_k_22 q; (LkP.xg (LkP.ltv (fun v_26 => (lkp_fn_X18_digest_L50 K g_h0 _ _ _ h_z_19 ))))))))))))))))))))))))))))
theorem lkp_fn_X6_readForeignFunctions_L16 {F : Nat} {sh : Nat → Nat × Nat} {n : Nat} {h0 : Nat} (K : Kp Q G) (g_h0 : G h0) : ∀ (f : Nat) (v1 : St) (v2 : Int32), Q v1 → LkP Q (fn_X6_readForeignFunctions_L16 F sh n h0 f v1 v2) := by
  intro f
  induction f with
  | zero => intros; exact LkP.none
  | succ f_11 ih =>
    intro z_10 p_9 h_z_10
    exact (LkP.xl (fun k_12 q => have g_k_12 := K.2.2.2.2.2 _ _ _ _ h_z_10 g_h0 q; (LkP.xg (LkP.ite (LkP.ret h_z_10) (LkP.ite (LkP.ltv (fun v_16 => (LkP.xl (fun k_17 q => have g_k_17 := K.2.2.2.2.2 _ _ _ _ h_z_10 g_h0 q; (LkP.xc (lkp_fn_X6_readShort K h_z_10 g_h0) (fun z_18 r_19 h_z_18 => (LkP.xg (LkP.xc (lkp_fn_X5_setFunction K h_z_18 g_k_17) (fun z_21 _ h_z_21 => (LkP.xl (fun k_24 q => have g_k_24 := K.2.2.2.2.2 _ _ _ _ h_z_21 g_h0 q; (LkP.xc (lkp_fn_X6_readByte K h_z_21 g_h0) (fun z_25 r_26 h_z_25 => (LkP.xg (LkP.xc (lkp_fn_X5_setFunction K h_z_25 g_k_24) (fun z_28 _ h_z_28 => (LkP.xl (fun k_31 q => have g_k_31 := K.2.2.2.2.2 _ _ _ _ h_z_28 g_h0 q; (LkP.xc (lkp_fn_X6_readNumber K h_z_28 g_h0) (fun z_32 r_33 h_z_32 => (LkP.xg (LkP.xc (lkp_fn_X5_setFunction K h_z_32 g_k_31) (fun z_35 _ h_z_35 => (LkP.xl (fun k_38 q => have g_k_38 := K.2.2.2.2.2 _ _ _ _ h_z_35 g_h0 q; (LkP.xl (fun k_39 q => have g_k_39 := K.2.2.2.2.2 _ _ _ _ h_z_35 g_h0 q; (LkP.xg (LkP.xg (LkP.xc (lkp_fn_X5_setFunction K h_z_35 g_k_38) (fun z_41 _ h_z_41 => (LkP.xl (fun k_44 q => have g_k_44 := K.2.2.2.2.2 _ _ _ _ h_z_41 g_h0 q; (LkP.xc (lkp_fn_X6_readList K h_z_41 g_h0) (fun z_45 r_46 h_z_45 => (LkP.xg (LkP.xc (lkp_fn_X5_setFunction K h_z_45 g_k_44) (fun z_48 _ h_z_48 => (LkP.xl (fun k_51 q => have g_k_51 := K.2.2.2.2.2 _ _ _ _ h_z_48 g_h0 q; (LkP.xc (lkp_fn_X6_readList K h_z_48 g_h0) (fun z_52 r_53 h_z_52 => (LkP.xg (LkP.xc (lkp_fn_X5_setFunction K h_z_52 g_k_51) (fun z_55 _ h_z_55 => (LkP.xl (fun k_58 q => have g_k_58 := K.2.2.2.2.2 _ _ _ _ h_z_55 g_h0 q; (LkP.xg (LkP.xc (lkp_fn_X5_setFunction K h_z_55 g_k_58) (fun z_59 _ h_z_59 => (LkP.xl (fun k_62 q => have g_k_62 := K.2.2.2.2.2 _ _ _ _ h_z_59 g_h0 q; (LkP.xg (LkP.xc (lkp_fn_X5_setFunction K h_z_59 g_k_62) (fun z_63 _ h_z_63 => (ih _ _ h_z_63 )))))))))))))))))))))))))))))))))))))))))))))))))))))))) (LkP.ret h_z_10))))))
theorem lkp_fn_X6_readForeignFunctions {F : Nat} {sh : Nat → Nat × Nat} {n : Nat} {z : St} {h0 : Nat} (K : Kp Q G) (h_z : Q z) (g_h0 : G h0) : LkP Q (fn_X6_readForeignFunctions F sh n z h0) := by
  unfold fn_X6_readForeignFunctions
  exact (LkP.xg (LkP.xl (fun k_2 q => have g_k_2 := K.2.2.2.2.2 _ _ _ _ h_z g_h0 q; (LkP.xc (lkp_fn_X6_readNumber K h_z g_h0) (fun z_3 r_4 h_z_3 => (LkP.xg (LkP.lts (K.1 _ _ _ _ h_z_3 g_k_2) (fun z_8 h_z_8 => (lkp_fn_X6_readForeignFunctions_L16 K g_h0 _ _ _ h_z_8 )))))))))
theorem lkp_fn_X4_enter_B86 {F : Nat} {sh : Nat → Nat × Nat} {n : Nat} {k_7 : Nat} {x1 : Int32} {h0 : Nat} {z_29 : St} (K : Kp Q G) (h_z_29 : Q z_29) (g_k_7 : G k_7) (g_h0 : G h0) : LkP Q (fn_X4_enter_B86 F sh n k_7 x1 h0 z_29) := by
  unfold fn_X4_enter_B86
  exact (LkP.xc (lkp_fn_X5_takes K h_z_29 g_k_7) (fun z_30 r_31 h_z_30 => (LkP.xl (fun k_33 q => have g_k_33 := K.2.2.2.2.2 _ _ _ _ h_z_30 g_h0 q; (LkP.xg (LkP.ltv (fun v_35 => (LkP.xl (fun k_36 q => have g_k_36 := K.2.2.2.2.2 _ _ _ _ h_z_30 g_h0 q; (LkP.xg (LkP.ltv (fun v_38 => (LkP.xl (fun k_39 q => have g_k_39 := K.2.2.2.2.2 _ _ _ _ h_z_30 g_h0 q; (LkP.xg (LkP.xg (LkP.lts (K.1 _ _ _ _ h_z_30 g_k_39) (fun z_43 h_z_43 => (LkP.xc (lkp_fn_X4_pushFrame K h_z_43 g_h0 g_k_7) (fun z_44 _ h_z_44 => (LkP.xl (fun k_46 q => have g_k_46 := K.2.2.2.2.2 _ _ _ _ h_z_44 g_h0 q; (LkP.xl (fun k_47 q => have g_k_47 := K.2.2.2.2.2 _ _ _ _ h_z_44 g_h0 q; (LkP.xg (LkP.xg (LkP.xg (LkP.lts (K.2.2.2.1 _ _ _ _ _ _ h_z_44 g_k_47) (fun z_52 h_z_52 => (LkP.ret h_z_52))))))))))))))))))))))))))))))
theorem lkp_fn_X4_enter {F : Nat} {sh : Nat → Nat × Nat} {n : Nat} {z : St} {h0 : Nat} {x0 : Int32} {x1 : Int32} (K : Kp Q G) (h_z : Q z) (g_h0 : G h0) : LkP Q (fn_X4_enter F sh n z h0 x0 x1) := by
  unfold fn_X4_enter
  exact (LkP.xg (LkP.xl (fun k_2 q => have g_k_2 := K.2.2.2.2.2 _ _ _ _ h_z g_h0 q; (LkP.xg (LkP.calo (lkp_fn_X7_findProgram K h_z g_k_2) (fun z_3 r_4 h_z_3 o_r_4 => (LkP.xn (LkP.xc (lkp_fn_X4_end K h_z_3 g_h0) (fun z_8 _ h_z_8 => (LkP.ret h_z_8))) (fun k_7 q => have g_k_7 := o_r_4 _ q; (LkP.ite (LkP.xc (lkp_fn_X4_end K h_z_3 g_h0) (fun z_11 _ h_z_11 => (LkP.ret h_z_11))) (LkP.xl (fun k_13 q => have g_k_13 := K.2.2.2.2.2 _ _ _ _ h_z_3 g_h0 q; (LkP.xg (LkP.xc (lkp_fn_X2_ask K h_z_3 g_k_13) (fun z_14 r_15 h_z_14 => (LkP.ite (LkP.xc (lkp_fn_X4_pay K h_z_14 g_h0) (fun z_19 r_20 h_z_19 => (LkP.ite (LkP.ret h_z_19) (LkP.xg (LkP.xc (lkp_fn_X5_takes K h_z_19 g_k_7) (fun z_23 r_24 h_z_23 => (LkP.xl (fun k_27 q => have g_k_27 := K.2.2.2.2.2 _ _ _ _ h_z_23 g_h0 q; (LkP.xg (LkP.ite (lkp_fn_X4_enter_B86 K h_z_23 g_k_7 g_h0) (LkP.xl (fun k_54 q => have g_k_54 := K.2.2.2.2.2 _ _ _ _ h_z_23 g_h0 q; (LkP.xg (LkP.lts (K.1 _ _ _ _ h_z_23 g_k_54) (fun z_57 h_z_57 => (lkp_fn_X4_enter_B86 K h_z_57 g_k_7 g_h0)))))))))))))))) (LkP.xc (lkp_fn_X4_end K h_z_14 g_h0) (fun z_58 _ h_z_58 => (LkP.ret h_z_58))))))))))))))))))
theorem lkp_fn_X18_measure_L129 {F : Nat} {sh : Nat → Nat × Nat} {n : Nat} {k_4 : Nat} {p_17 : Int32} {h0 : Nat} {x0 : Int32} {ko114 : St → Int32 → Option (St × Unit)} (K : Kp Q G) (g_k_4 : G k_4) (g_h0 : G h0) (hko_ko114 : ∀ (w0 : St) (w1 : Int32), Q w0 → LkP Q (ko114 w0 w1)) : ∀ (f : Nat) (v1 : St) (v2 : Int32) (v3 : Int32), Q v1 → LkP Q (fn_X18_measure_L129 F sh n k_4 p_17 h0 x0 ko114 f v1 v2 v3) := by
  intro f
  induction f with
  | zero => intros; exact LkP.none
  | succ f_24 ih =>
    intro z_23 p_21 p_22 h_z_23
    exact (LkP.xc (lkp_fn_X16_fieldsOf K h_z_23 g_k_4) (fun z_25 r_26 h_z_25 => (LkP.ite (LkP.xl (fun k_29 q => have g_k_29 := K.2.2.2.2.2 _ _ _ _ h_z_25 g_h0 q; (LkP.xg (LkP.lts (K.1 _ _ _ _ h_z_25 g_k_29) (fun z_32 h_z_32 => (hko_ko114 _ _ h_z_32 )))))) (LkP.xc (lkp_fn_X16_field K h_z_25 g_k_4) (fun z_33 r_34 h_z_33 => (LkP.xc (lkp_fn_X18_depthOf K h_z_33 g_h0) (fun z_36 r_37 h_z_36 => (LkP.ltv (fun v_39 => (ih _ _ _ h_z_36 ))))))))))
theorem lkp_fn_X18_measure_L114 {F : Nat} {sh : Nat → Nat × Nat} {n : Nat} {k_4 : Nat} {p_13 : Int32} {h0 : Nat} {x0 : Int32} {ko103 : St → Int32 → Option (St × Unit)} (K : Kp Q G) (g_k_4 : G k_4) (g_h0 : G h0) (hko_ko103 : ∀ (w0 : St) (w1 : Int32), Q w0 → LkP Q (ko103 w0 w1)) : ∀ (f : Nat) (v1 : St) (v2 : Int32), Q v1 → LkP Q (fn_X18_measure_L114 F sh n k_4 p_13 h0 x0 ko103 f v1 v2) := by
  intro f
  induction f with
  | zero => intros; exact LkP.none
  | succ f_19 ih =>
    intro z_18 p_17 h_z_18
    exact (LkP.ite (hko_ko103 _ _ h_z_18 ) (lkp_fn_X18_measure_L129 K g_k_4 g_h0 (fun z9 q4 hk_z9 => (ih _ _ hk_z9 )) _ _ _ _ h_z_18 ))
theorem lkp_fn_X18_measure_L103 {F : Nat} {sh : Nat → Nat × Nat} {n : Nat} {k_4 : Nat} {h0 : Nat} {x0 : Int32} (K : Kp Q G) (g_k_4 : G k_4) (g_h0 : G h0) : ∀ (f : Nat) (v1 : St) (v2 : Int32), Q v1 → LkP Q (fn_X18_measure_L103 F sh n k_4 h0 x0 f v1 v2) := by
  intro f
  induction f with
  | zero => intros; exact LkP.none
  | succ f_15 ih =>
    intro z_14 p_13 h_z_14
    exact (LkP.ite (LkP.ret h_z_14) (lkp_fn_X18_measure_L114 K g_k_4 g_h0 (fun z9 q3 hk_z9 => (ih _ _ hk_z9 )) _ _ _ h_z_14 ))
theorem lkp_fn_X18_measure_B94 {F : Nat} {sh : Nat → Nat × Nat} {n : Nat} {k_42 : Nat} {x0 : Int32} {p_5 : Int32} {ko9 : St → Int32 → Option (St × Unit)} {z_44 : St} {p_43 : Int32} (K : Kp Q G) (h_z_44 : Q z_44) (g_k_42 : G k_42) (hko_ko9 : ∀ (w0 : St) (w1 : Int32), Q w0 → LkP Q (ko9 w0 w1)) : LkP Q (fn_X18_measure_B94 F sh n k_42 x0 p_5 ko9 z_44 p_43) := by
  unfold fn_X18_measure_B94
  exact (LkP.xg (LkP.lts (K.1 _ _ _ _ h_z_44 g_k_42) (fun z_47 h_z_47 => (hko_ko9 _ _ h_z_47 ))))
theorem lkp_fn_X18_measure_B34 {F : Nat} {sh : Nat → Nat × Nat} {n : Nat} {h0 : Nat} {k_4 : Nat} {p_5 : Int32} {x0 : Int32} {ko9 : St → Int32 → Option (St × Unit)} {z_41 : St} {p_40 : Int32} (K : Kp Q G) (h_z_41 : Q z_41) (g_h0 : G h0) (g_k_4 : G k_4) (hko_ko9 : ∀ (w0 : St) (w1 : Int32), Q w0 → LkP Q (ko9 w0 w1)) : LkP Q (fn_X18_measure_B34 F sh n h0 k_4 p_5 x0 ko9 z_41 p_40) := by
  unfold fn_X18_measure_B34
  exact (LkP.xl (fun k_42 q => have g_k_42 := K.2.2.2.2.2 _ _ _ _ h_z_41 g_h0 q; (LkP.ite (LkP.ite (lkp_fn_X18_measure_B94 K h_z_41 g_k_42 (fun z9 q3 hk_z9 => (hko_ko9 _ _ hk_z9 ))) (LkP.xl (fun k_50 q => have g_k_50 := K.2.2.2.2.2 _ _ _ _ h_z_41 g_h0 q; (LkP.xc (lkp_fn_X18_findModule K h_z_41 g_h0) (fun z_51 r_52 h_z_51 => (LkP.xg (lkp_fn_X18_measure_B94 K h_z_51 g_k_42 (fun z9 q3 hk_z9 => (hko_ko9 _ _ hk_z9 ))))))))) (lkp_fn_X18_measure_B94 K h_z_41 g_k_42 (fun z9 q3 hk_z9 => (hko_ko9 _ _ hk_z9 ))))))
theorem lkp_fn_X18_measure_L9 {F : Nat} {sh : Nat → Nat × Nat} {n : Nat} {k_4 : Nat} {h0 : Nat} {x0 : Int32} (K : Kp Q G) (g_k_4 : G k_4) (g_h0 : G h0) : ∀ (f : Nat) (v1 : St) (v2 : Int32), Q v1 → LkP Q (fn_X18_measure_L9 F sh n k_4 h0 x0 f v1 v2) := by
  intro f
  induction f with
  | zero => intros; exact LkP.none
  | succ f_7 ih =>
    intro z_6 p_5 h_z_6
    exact (LkP.xg (LkP.xc (lkp_fn_X16_structureCount K h_z_6 g_k_4) (fun z_8 r_9 h_z_8 => (LkP.ite (lkp_fn_X18_measure_L103 K g_k_4 g_h0 _ _ _ h_z_8 ) (LkP.ite (LkP.xc (lkp_fn_X16_identity K h_z_8 g_k_4) (fun z_56 r_57 h_z_56 => (lkp_fn_X18_measure_B34 K h_z_56 g_h0 g_k_4 (fun z9 q3 hk_z9 => (ih _ _ hk_z9 ))))) (lkp_fn_X18_measure_B34 K h_z_8 g_h0 g_k_4 (fun z9 q3 hk_z9 => (ih _ _ hk_z9 ))))))))
theorem lkp_fn_X18_measure {F : Nat} {sh : Nat → Nat × Nat} {n : Nat} {z : St} {h0 : Nat} {x0 : Int32} (K : Kp Q G) (h_z : Q z) (g_h0 : G h0) : LkP Q (fn_X18_measure F sh n z h0 x0) := by
  unfold fn_X18_measure
  exact (LkP.xg (LkP.xl (fun k_2 q => have g_k_2 := K.2.2.2.2.2 _ _ _ _ h_z g_h0 q; (LkP.xg (LkP.xl (fun k_4 q => have g_k_4 := K.2.2.2.2.2 _ _ _ _ h_z g_k_2 q; (lkp_fn_X18_measure_L9 K g_k_4 g_h0 _ _ _ h_z )))))))
theorem lkp_fn_X13_onResource_B196 {F : Nat} {sh : Nat → Nat × Nat} {n : Nat} {r_2 : Int64} {h0 : Nat} {v_4 : Int32} {z_32 : St} {p_31 : Int32} (K : Kp Q G) (h_z_32 : Q z_32) (g_h0 : G h0) : LkP Q (fn_X13_onResource_B196 F sh n r_2 h0 v_4 z_32 p_31) := by
  unfold fn_X13_onResource_B196
  exact (LkP.xc (lkp_fn_X13_before K h_z_32) (fun z_33 r_34 h_z_33 => (LkP.xc (lkp_fn_X13_push K h_z_33 g_h0) (fun z_36 _ h_z_36 => (LkP.ret h_z_36)))))
theorem lkp_fn_X13_onResource_B176 {F : Nat} {sh : Nat → Nat × Nat} {n : Nat} {x0 : Int32} {r_2 : Int64} {h0 : Nat} {v_4 : Int32} {z_29 : St} (K : Kp Q G) (h_z_29 : Q z_29) (g_h0 : G h0) : LkP Q (fn_X13_onResource_B176 F sh n x0 r_2 h0 v_4 z_29) := by
  unfold fn_X13_onResource_B176
  exact (LkP.ite (LkP.ret h_z_29) (LkP.ite (lkp_fn_X13_onResource_B196 K h_z_29 g_h0) (lkp_fn_X13_onResource_B196 K h_z_29 g_h0)))
theorem lkp_fn_X13_onResource_B165 {F : Nat} {sh : Nat → Nat × Nat} {n : Nat} {x0 : Int32} {h0 : Nat} {r_2 : Int64} {v_4 : Int32} {z_28 : St} (K : Kp Q G) (h_z_28 : Q z_28) (g_h0 : G h0) : LkP Q (fn_X13_onResource_B165 F sh n x0 h0 r_2 v_4 z_28) := by
  unfold fn_X13_onResource_B165
  exact (LkP.ite (LkP.xc (lkp_fn_X13_give K h_z_28 g_h0) (fun z_40 _ h_z_40 => (lkp_fn_X13_onResource_B176 K h_z_40 g_h0))) (lkp_fn_X13_onResource_B176 K h_z_28 g_h0))
theorem lkp_fn_X13_onResource_B154 {F : Nat} {sh : Nat → Nat × Nat} {n : Nat} {x0 : Int32} {h0 : Nat} {r_2 : Int64} {v_4 : Int32} {z_27 : St} (K : Kp Q G) (h_z_27 : Q z_27) (g_h0 : G h0) : LkP Q (fn_X13_onResource_B154 F sh n x0 h0 r_2 v_4 z_27) := by
  unfold fn_X13_onResource_B154
  exact (LkP.ite (LkP.xc (lkp_fn_X13_give K h_z_27 g_h0) (fun z_43 _ h_z_43 => (lkp_fn_X13_onResource_B165 K h_z_43 g_h0))) (lkp_fn_X13_onResource_B165 K h_z_27 g_h0))
theorem lkp_fn_X13_onResource_B149 {F : Nat} {sh : Nat → Nat × Nat} {n : Nat} {h0 : Nat} {x0 : Int32} {r_2 : Int64} {v_4 : Int32} {z_50 : St} {p_49 : Int32} (K : Kp Q G) (h_z_50 : Q z_50) (g_h0 : G h0) : LkP Q (fn_X13_onResource_B149 F sh n h0 x0 r_2 v_4 z_50 p_49) := by
  unfold fn_X13_onResource_B149
  exact (LkP.xc (lkp_fn_X13_need K h_z_50 g_h0) (fun z_51 _ h_z_51 => (lkp_fn_X13_onResource_B154 K h_z_51 g_h0)))
theorem lkp_fn_X13_onResource_B127 {F : Nat} {sh : Nat → Nat × Nat} {n : Nat} {x0 : Int32} {h0 : Nat} {v_4 : Int32} {r_2 : Int64} {z_26 : St} (K : Kp Q G) (h_z_26 : Q z_26) (g_h0 : G h0) : LkP Q (fn_X13_onResource_B127 F sh n x0 h0 v_4 r_2 z_26) := by
  unfold fn_X13_onResource_B127
  exact (LkP.ite (LkP.xc (lkp_fn_X13_isPointed K h_z_26 g_h0) (fun z_46 r_47 h_z_46 => (LkP.ite (lkp_fn_X13_onResource_B149 K h_z_46 g_h0) (lkp_fn_X13_onResource_B149 K h_z_46 g_h0)))) (lkp_fn_X13_onResource_B154 K h_z_26 g_h0))
theorem lkp_fn_X13_onResource_B122 {F : Nat} {sh : Nat → Nat × Nat} {n : Nat} {h0 : Nat} {x0 : Int32} {v_4 : Int32} {r_2 : Int64} {z_59 : St} {p_58 : Int32} (K : Kp Q G) (h_z_59 : Q z_59) (g_h0 : G h0) : LkP Q (fn_X13_onResource_B122 F sh n h0 x0 v_4 r_2 z_59 p_58) := by
  unfold fn_X13_onResource_B122
  exact (LkP.xc (lkp_fn_X13_need K h_z_59 g_h0) (fun z_60 _ h_z_60 => (lkp_fn_X13_onResource_B127 K h_z_60 g_h0)))
theorem lkp_fn_X13_onResource_B106 {F : Nat} {sh : Nat → Nat × Nat} {n : Nat} {h0 : Nat} {v_4 : Int32} {x0 : Int32} {r_2 : Int64} {z_54 : St} (K : Kp Q G) (h_z_54 : Q z_54) (g_h0 : G h0) : LkP Q (fn_X13_onResource_B106 F sh n h0 v_4 x0 r_2 z_54) := by
  unfold fn_X13_onResource_B106
  exact (LkP.xc (lkp_fn_X13_isPointed K h_z_54 g_h0) (fun z_55 r_56 h_z_55 => (LkP.ite (lkp_fn_X13_onResource_B122 K h_z_55 g_h0) (lkp_fn_X13_onResource_B122 K h_z_55 g_h0))))
theorem lkp_fn_X13_onResource_B82 {F : Nat} {sh : Nat → Nat × Nat} {n : Nat} {h0 : Nat} {x0 : Int32} {v_4 : Int32} {r_2 : Int64} {z_22 : St} {p_21 : Int32} (K : Kp Q G) (h_z_22 : Q z_22) (g_h0 : G h0) : LkP Q (fn_X13_onResource_B82 F sh n h0 x0 v_4 r_2 z_22 p_21) := by
  unfold fn_X13_onResource_B82
  exact (LkP.xc (lkp_fn_X13_need K h_z_22 g_h0) (fun z_23 _ h_z_23 => (LkP.ite (LkP.ite (lkp_fn_X13_onResource_B106 K h_z_23 g_h0) (LkP.ite (lkp_fn_X13_onResource_B106 K h_z_23 g_h0) (lkp_fn_X13_onResource_B127 K h_z_23 g_h0))) (LkP.ret h_z_23))))
theorem lkp_fn_X13_onResource_B57 {F : Nat} {sh : Nat → Nat × Nat} {n : Nat} {h0 : Nat} {x1 : Int32} {x0 : Int32} {v_4 : Int32} {r_2 : Int64} {z_13 : St} {p_12 : Int32} (K : Kp Q G) (h_z_13 : Q z_13) (g_h0 : G h0) : LkP Q (fn_X13_onResource_B57 F sh n h0 x1 x0 v_4 r_2 z_13 p_12) := by
  unfold fn_X13_onResource_B57
  exact (LkP.xc (lkp_fn_X13_need K h_z_13 g_h0) (fun z_14 _ h_z_14 => (LkP.xl (fun k_16 q => have g_k_16 := K.2.2.2.2.2 _ _ _ _ h_z_14 g_h0 q; (LkP.xg (LkP.xc (lkp_fn_X16_abilitiesOf K h_z_14 g_k_16) (fun z_17 r_18 h_z_17 => (LkP.ite (lkp_fn_X13_onResource_B82 K h_z_17 g_h0) (lkp_fn_X13_onResource_B82 K h_z_17 g_h0)))))))))
theorem lkp_fn_X13_onResource_B35 {F : Nat} {sh : Nat → Nat × Nat} {n : Nat} {h0 : Nat} {x1 : Int32} {x0 : Int32} {v_4 : Int32} {r_2 : Int64} {z_5 : St} (K : Kp Q G) (h_z_5 : Q z_5) (g_h0 : G h0) : LkP Q (fn_X13_onResource_B35 F sh n h0 x1 x0 v_4 r_2 z_5) := by
  unfold fn_X13_onResource_B35
  exact (LkP.xg (LkP.xl (fun k_7 q => have g_k_7 := K.2.2.2.2.2 _ _ _ _ h_z_5 g_h0 q; (LkP.xg (LkP.xc (lkp_fn_X16_flags K h_z_5 g_k_7) (fun z_8 r_9 h_z_8 => (LkP.ite (lkp_fn_X13_onResource_B57 K h_z_8 g_h0) (lkp_fn_X13_onResource_B57 K h_z_8 g_h0))))))))
theorem lkp_fn_X13_onResource {F : Nat} {sh : Nat → Nat × Nat} {n : Nat} {z : St} {h0 : Nat} {x0 : Int32} {x1 : Int32} (K : Kp Q G) (h_z : Q z) (g_h0 : G h0) : LkP Q (fn_X13_onResource F sh n z h0 x0 x1) := by
  unfold fn_X13_onResource
  exact (LkP.xc (lkp_fn_X13_structureType K h_z) (fun z_1 r_2 h_z_1 => (LkP.ltv (fun v_4 => (LkP.ite (LkP.xg (LkP.xc (lkp_fn_X13_take_ K h_z_1 g_h0) (fun z_71 _ h_z_71 => (lkp_fn_X13_onResource_B35 K h_z_71 g_h0)))) (LkP.xg (LkP.xc (lkp_fn_X13_take_ K h_z_1 g_h0) (fun z_68 _ h_z_68 => (lkp_fn_X13_onResource_B35 K h_z_68 g_h0)))))))))
theorem lkp_fn_X13_onNumbers_B135 {F : Nat} {sh : Nat → Nat × Nat} {n : Nat} {h0 : Nat} {z_27 : St} (K : Kp Q G) (h_z_27 : Q z_27) (g_h0 : G h0) : LkP Q (fn_X13_onNumbers_B135 F sh n h0 z_27) := by
  unfold fn_X13_onNumbers_B135
  exact (LkP.xc (lkp_fn_X13_take_ K h_z_27 g_h0) (fun z_28 _ h_z_28 => (LkP.ite (LkP.xc (lkp_fn_X13_has K h_z_28 g_h0) (fun z_33 r_34 h_z_33 => (LkP.xc (lkp_fn_X13_need K h_z_33 g_h0) (fun z_36 _ h_z_36 => (LkP.xc (lkp_fn_X13_give K h_z_36 g_h0) (fun z_38 _ h_z_38 => (LkP.ret h_z_38))))))) (LkP.xc (lkp_fn_X13_give K h_z_28 g_h0) (fun z_31 _ h_z_31 => (LkP.ret h_z_31))))))
theorem lkp_fn_X13_onNumbers_B131 {F : Nat} {sh : Nat → Nat × Nat} {n : Nat} {h0 : Nat} {z_45 : St} {p_44 : Int32} (K : Kp Q G) (h_z_45 : Q z_45) (g_h0 : G h0) : LkP Q (fn_X13_onNumbers_B131 F sh n h0 z_45 p_44) := by
  unfold fn_X13_onNumbers_B131
  exact (LkP.xc (lkp_fn_X13_need K h_z_45 g_h0) (fun z_46 _ h_z_46 => (lkp_fn_X13_onNumbers_B135 K h_z_46 g_h0)))
theorem lkp_fn_X13_onNumbers {F : Nat} {sh : Nat → Nat × Nat} {n : Nat} {z : St} {h0 : Nat} {x0 : Int32} (K : Kp Q G) (h_z : Q z) (g_h0 : G h0) : LkP Q (fn_X13_onNumbers F sh n z h0 x0) := by
  unfold fn_X13_onNumbers
  exact (LkP.ite (LkP.ite (LkP.ite (LkP.xg (LkP.xc (lkp_fn_X13_take_ K h_z g_h0) (fun z_49 _ h_z_49 => (LkP.xc (lkp_fn_X13_give K h_z_49 g_h0) (fun z_52 _ h_z_52 => (LkP.ret h_z_52)))))) (LkP.ite (LkP.ite (LkP.xg (LkP.xc (lkp_fn_X13_take K h_z g_h0) (fun z_6 _ h_z_6 => (LkP.ite (LkP.xc (lkp_fn_X13_isNumber K h_z_6) (fun z_12 r_13 h_z_12 => (LkP.xc (lkp_fn_X13_need K h_z_12 g_h0) (fun z_15 _ h_z_15 => (LkP.xc (lkp_fn_X13_give K h_z_15 g_h0) (fun z_17 _ h_z_17 => (LkP.ret h_z_17))))))) (LkP.xc (lkp_fn_X13_give K h_z_6 g_h0) (fun z_10 _ h_z_10 => (LkP.ret h_z_10))))))) (LkP.xg (LkP.xc (lkp_fn_X13_takeNumbers K h_z g_h0) (fun z_19 _ h_z_19 => (LkP.xc (lkp_fn_X13_give K h_z_19 g_h0) (fun z_22 _ h_z_22 => (LkP.ret h_z_22))))))) (LkP.xg (LkP.xc (lkp_fn_X13_take K h_z g_h0) (fun z_24 _ h_z_24 => (LkP.ite (LkP.xc (lkp_fn_X13_isReference K h_z_24) (fun z_41 r_42 h_z_41 => (LkP.ite (lkp_fn_X13_onNumbers_B131 K h_z_41 g_h0) (lkp_fn_X13_onNumbers_B131 K h_z_41 g_h0)))) (lkp_fn_X13_onNumbers_B135 K h_z_24 g_h0))))))) (LkP.xg (LkP.xc (lkp_fn_X13_take_ K h_z g_h0) (fun z_54 _ h_z_54 => (LkP.xc (lkp_fn_X13_take K h_z_54 g_h0) (fun z_57 _ h_z_57 => (LkP.ite (LkP.xc (lkp_fn_X13_isNumber K h_z_57) (fun z_62 r_63 h_z_62 => (LkP.xc (lkp_fn_X13_need K h_z_62 g_h0) (fun z_65 _ h_z_65 => (LkP.xc (lkp_fn_X13_give K h_z_65 g_h0) (fun z_67 _ h_z_67 => (LkP.ret h_z_67))))))) (LkP.xc (lkp_fn_X13_give K h_z_57 g_h0) (fun z_60 _ h_z_60 => (LkP.ret h_z_60)))))))))) (LkP.ite (LkP.xg (LkP.xc (lkp_fn_X13_takeNumbers K h_z g_h0) (fun z_70 _ h_z_70 => (LkP.xc (lkp_fn_X13_give K h_z_70 g_h0) (fun z_73 _ h_z_73 => (LkP.ret h_z_73)))))) (LkP.xg (LkP.xc (lkp_fn_X13_takeNumbers K h_z g_h0) (fun z_75 _ h_z_75 => (LkP.xc (lkp_fn_X13_give K h_z_75 g_h0) (fun z_78 _ h_z_78 => (LkP.ret h_z_78))))))))
theorem lkp_fn_X13_onVector_B223 {F : Nat} {sh : Nat → Nat × Nat} {n : Nat} {x0 : Int32} {h0 : Nat} {r_5 : Int64} {z_23 : St} (K : Kp Q G) (h_z_23 : Q z_23) (g_h0 : G h0) : LkP Q (fn_X13_onVector_B223 F sh n x0 h0 r_5 z_23) := by
  unfold fn_X13_onVector_B223
  exact (LkP.ite (LkP.xc (lkp_fn_X13_give K h_z_23 g_h0) (fun z_25 _ h_z_25 => (LkP.ret h_z_25))) (LkP.ret h_z_23))
theorem lkp_fn_X13_onVector_B212 {F : Nat} {sh : Nat → Nat × Nat} {n : Nat} {r_5 : Int64} {h0 : Nat} {v_19 : Int64} {x0 : Int32} {z_29 : St} {p_28 : Int32} (K : Kp Q G) (h_z_29 : Q z_29) (g_h0 : G h0) : LkP Q (fn_X13_onVector_B212 F sh n r_5 h0 v_19 x0 z_29 p_28) := by
  unfold fn_X13_onVector_B212
  exact (LkP.xc (lkp_fn_X13_before K h_z_29) (fun z_30 r_31 h_z_30 => (LkP.xc (lkp_fn_X13_push K h_z_30 g_h0) (fun z_33 _ h_z_33 => (lkp_fn_X13_onVector_B223 K h_z_33 g_h0)))))
theorem lkp_fn_X13_onVector_B198 {F : Nat} {sh : Nat → Nat × Nat} {n : Nat} {x0 : Int32} {r_5 : Int64} {h0 : Nat} {v_19 : Int64} {z_27 : St} (K : Kp Q G) (h_z_27 : Q z_27) (g_h0 : G h0) : LkP Q (fn_X13_onVector_B198 F sh n x0 r_5 h0 v_19 z_27) := by
  unfold fn_X13_onVector_B198
  exact (LkP.ite (lkp_fn_X13_onVector_B212 K h_z_27 g_h0) (lkp_fn_X13_onVector_B212 K h_z_27 g_h0))
theorem lkp_fn_X13_onVector_B186 {F : Nat} {sh : Nat → Nat × Nat} {n : Nat} {x0 : Int32} {r_5 : Int64} {h0 : Nat} {v_19 : Int64} {z_22 : St} (K : Kp Q G) (h_z_22 : Q z_22) (g_h0 : G h0) : LkP Q (fn_X13_onVector_B186 F sh n x0 r_5 h0 v_19 z_22) := by
  unfold fn_X13_onVector_B186
  exact (LkP.ite (lkp_fn_X13_onVector_B198 K h_z_22 g_h0) (LkP.ite (lkp_fn_X13_onVector_B198 K h_z_22 g_h0) (lkp_fn_X13_onVector_B223 K h_z_22 g_h0)))
theorem lkp_fn_X13_onVector_B173 {F : Nat} {sh : Nat → Nat × Nat} {n : Nat} {x0 : Int32} {h0 : Nat} {r_5 : Int64} {v_19 : Int64} {z_21 : St} (K : Kp Q G) (h_z_21 : Q z_21) (g_h0 : G h0) : LkP Q (fn_X13_onVector_B173 F sh n x0 h0 r_5 v_19 z_21) := by
  unfold fn_X13_onVector_B173
  exact (LkP.ite (LkP.xc (lkp_fn_X13_give K h_z_21 g_h0) (fun z_39 _ h_z_39 => (lkp_fn_X13_onVector_B186 K h_z_39 g_h0))) (lkp_fn_X13_onVector_B186 K h_z_21 g_h0))
theorem lkp_fn_X13_onVector_B138 {F : Nat} {sh : Nat → Nat × Nat} {n : Nat} {h0 : Nat} {r_9 : Int64} {x0 : Int32} {r_5 : Int64} {z_16 : St} {p_15 : Int32} (K : Kp Q G) (h_z_16 : Q z_16) (g_h0 : G h0) : LkP Q (fn_X13_onVector_B138 F sh n h0 r_9 x0 r_5 z_16 p_15) := by
  unfold fn_X13_onVector_B138
  exact (LkP.xc (lkp_fn_X13_takeReference K h_z_16 g_h0) (fun z_17 _ h_z_17 => (LkP.ltv (fun v_19 => (LkP.ite (LkP.ite (lkp_fn_X13_onVector_B173 K h_z_17 g_h0) (LkP.xc (lkp_fn_X13_isSole K h_z_17 g_h0) (fun z_42 r_43 h_z_42 => (LkP.xc (lkp_fn_X13_need K h_z_42 g_h0) (fun z_45 _ h_z_45 => (lkp_fn_X13_onVector_B173 K h_z_45 g_h0)))))) (LkP.ret h_z_17))))))
theorem lkp_fn_X13_onVector_B124 {F : Nat} {sh : Nat → Nat × Nat} {n : Nat} {x0 : Int32} {h0 : Nat} {r_9 : Int64} {r_5 : Int64} {z_14 : St} (K : Kp Q G) (h_z_14 : Q z_14) (g_h0 : G h0) : LkP Q (fn_X13_onVector_B124 F sh n x0 h0 r_9 r_5 z_14) := by
  unfold fn_X13_onVector_B124
  exact (LkP.ite (lkp_fn_X13_onVector_B138 K h_z_14 g_h0) (lkp_fn_X13_onVector_B138 K h_z_14 g_h0))
theorem lkp_fn_X13_onVector_B112 {F : Nat} {sh : Nat → Nat × Nat} {n : Nat} {x0 : Int32} {h0 : Nat} {r_5 : Int64} {r_9 : Int64} {z_13 : St} (K : Kp Q G) (h_z_13 : Q z_13) (g_h0 : G h0) : LkP Q (fn_X13_onVector_B112 F sh n x0 h0 r_5 r_9 z_13) := by
  unfold fn_X13_onVector_B112
  exact (LkP.ite (LkP.xc (lkp_fn_X13_take_ K h_z_13 g_h0) (fun z_49 _ h_z_49 => (lkp_fn_X13_onVector_B124 K h_z_49 g_h0))) (lkp_fn_X13_onVector_B124 K h_z_13 g_h0))
theorem lkp_fn_X13_onVector_B99 {F : Nat} {sh : Nat → Nat × Nat} {n : Nat} {x0 : Int32} {h0 : Nat} {r_5 : Int64} {r_9 : Int64} {z_12 : St} (K : Kp Q G) (h_z_12 : Q z_12) (g_h0 : G h0) : LkP Q (fn_X13_onVector_B99 F sh n x0 h0 r_5 r_9 z_12) := by
  unfold fn_X13_onVector_B99
  exact (LkP.ite (LkP.xc (lkp_fn_X13_take_ K h_z_12 g_h0) (fun z_52 _ h_z_52 => (lkp_fn_X13_onVector_B112 K h_z_52 g_h0))) (lkp_fn_X13_onVector_B112 K h_z_12 g_h0))
theorem lkp_fn_X13_onVector_B92 {F : Nat} {sh : Nat → Nat × Nat} {n : Nat} {h0 : Nat} {x0 : Int32} {r_5 : Int64} {r_9 : Int64} {z_54 : St} (K : Kp Q G) (h_z_54 : Q z_54) (g_h0 : G h0) : LkP Q (fn_X13_onVector_B92 F sh n h0 x0 r_5 r_9 z_54) := by
  unfold fn_X13_onVector_B92
  exact (LkP.xc (lkp_fn_X13_take_ K h_z_54 g_h0) (fun z_55 _ h_z_55 => (lkp_fn_X13_onVector_B99 K h_z_55 g_h0)))
theorem lkp_fn_X13_onVector_L49 {F : Nat} {sh : Nat → Nat × Nat} {n : Nat} {x2 : Int32} {h0 : Nat} {r_9 : Int64} {r_5 : Int64} (K : Kp Q G) (g_h0 : G h0) : ∀ (f : Nat) (v1 : St) (v2 : Int32), Q v1 → LkP Q (fn_X13_onVector_L49 F sh n x2 h0 r_9 r_5 f v1 v2) := by
  intro f
  induction f with
  | zero => intros; exact LkP.none
  | succ f_62 ih =>
    intro z_61 p_60 h_z_61
    exact (LkP.ite (LkP.xc (lkp_fn_X13_give K h_z_61 g_h0) (fun z_64 _ h_z_64 => (LkP.ret h_z_64))) (LkP.xc (lkp_fn_X13_take_ K h_z_61 g_h0) (fun z_66 _ h_z_66 => (ih _ _ h_z_66 ))))
theorem lkp_fn_X13_onVector {F : Nat} {sh : Nat → Nat × Nat} {n : Nat} {z : St} {h0 : Nat} {x0 : Int32} {x1 : Int32} {x2 : Int32} (K : Kp Q G) (h_z : Q z) (g_h0 : G h0) : LkP Q (fn_X13_onVector F sh n z h0 x0 x1 x2) := by
  unfold fn_X13_onVector
  exact (LkP.ite (LkP.xg (LkP.xc (lkp_fn_X13_take_ K h_z g_h0) (fun z_68 _ h_z_68 => (LkP.xc (lkp_fn_X13_give K h_z_68 g_h0) (fun z_71 _ h_z_71 => (LkP.ret h_z_71)))))) (LkP.xg (LkP.xl (fun k_3 q => have g_k_3 := K.2.2.2.2.2 _ _ _ _ h_z g_h0 q; (LkP.xg (LkP.xc (lkp_fn_X16_element K h_z g_k_3) (fun z_4 r_5 h_z_4 => (LkP.xc (lkp_fn_X13_before K h_z_4) (fun z_8 r_9 h_z_8 => (LkP.ite (lkp_fn_X13_onVector_L49 K g_h0 _ _ _ h_z_8 ) (LkP.ite (lkp_fn_X13_onVector_B92 K h_z_8 g_h0) (LkP.ite (lkp_fn_X13_onVector_B92 K h_z_8 g_h0) (LkP.ite (lkp_fn_X13_onVector_B92 K h_z_8 g_h0) (lkp_fn_X13_onVector_B99 K h_z_8 g_h0))))))))))))))
theorem lkp_fn_X13_onReference_B52 {F : Nat} {sh : Nat → Nat × Nat} {n : Nat} {h0 : Nat} {x1 : Int32} {x2 : Int32} {z_12 : St} {p_11 : Int32} (K : Kp Q G) (h_z_12 : Q z_12) (g_h0 : G h0) : LkP Q (fn_X13_onReference_B52 F sh n h0 x1 x2 z_12 p_11) := by
  unfold fn_X13_onReference_B52
  exact (LkP.xl (fun k_13 q => have g_k_13 := K.2.2.2.2.2 _ _ _ _ h_z_12 g_h0 q; (LkP.xg (LkP.xc (lkp_fn_X16_field K h_z_12 g_k_13) (fun z_14 r_15 h_z_14 => (LkP.xc (lkp_fn_X13_before K h_z_14) (fun z_18 r_19 h_z_18 => (LkP.xc (lkp_fn_X13_push K h_z_18 g_h0) (fun z_21 _ h_z_21 => (LkP.ret h_z_21))))))))))
theorem lkp_fn_X13_onReference_B28 {F : Nat} {sh : Nat → Nat × Nat} {n : Nat} {h0 : Nat} {r_3 : Int64} {x0 : Int32} {x1 : Int32} {x2 : Int32} {z_6 : St} {p_5 : Int32} (K : Kp Q G) (h_z_6 : Q z_6) (g_h0 : G h0) : LkP Q (fn_X13_onReference_B28 F sh n h0 r_3 x0 x1 x2 z_6 p_5) := by
  unfold fn_X13_onReference_B28
  exact (LkP.xg (LkP.xc (lkp_fn_X13_takeReference K h_z_6 g_h0) (fun z_7 _ h_z_7 => (LkP.ite (LkP.ite (lkp_fn_X13_onReference_B52 K h_z_7 g_h0) (lkp_fn_X13_onReference_B52 K h_z_7 g_h0)) (LkP.ret h_z_7)))))
theorem lkp_fn_X13_onReference_B12 {F : Nat} {sh : Nat → Nat × Nat} {n : Nat} {x1 : Int32} {x0 : Int32} {h0 : Nat} {x2 : Int32} {z_1 : St} (K : Kp Q G) (h_z_1 : Q z_1) (g_h0 : G h0) : LkP Q (fn_X13_onReference_B12 F sh n x1 x0 h0 x2 z_1) := by
  unfold fn_X13_onReference_B12
  exact (LkP.xc (lkp_fn_X13_structureType K h_z_1) (fun z_2 r_3 h_z_2 => (LkP.ite (lkp_fn_X13_onReference_B28 K h_z_2 g_h0) (lkp_fn_X13_onReference_B28 K h_z_2 g_h0))))
theorem lkp_fn_X13_onReference_B189 {F : Nat} {sh : Nat → Nat × Nat} {n : Nat} {h0 : Nat} {v_44 : Int64} {z_46 : St} (K : Kp Q G) (h_z_46 : Q z_46) (g_h0 : G h0) : LkP Q (fn_X13_onReference_B189 F sh n h0 v_44 z_46) := by
  unfold fn_X13_onReference_B189
  exact (LkP.ite (LkP.xc (lkp_fn_X13_isSole K h_z_46 g_h0) (fun z_48 r_49 h_z_48 => (LkP.xc (lkp_fn_X13_need K h_z_48 g_h0) (fun z_51 _ h_z_51 => (LkP.ret h_z_51))))) (LkP.ret h_z_46))
theorem lkp_fn_X13_onReference_B168 {F : Nat} {sh : Nat → Nat × Nat} {n : Nat} {h0 : Nat} {v_44 : Int64} {z_45 : St} (K : Kp Q G) (h_z_45 : Q z_45) (g_h0 : G h0) : LkP Q (fn_X13_onReference_B168 F sh n h0 v_44 z_45) := by
  unfold fn_X13_onReference_B168
  exact (LkP.ite (LkP.xc (lkp_fn_X13_has K h_z_45 g_h0) (fun z_54 r_55 h_z_54 => (LkP.xc (lkp_fn_X13_need K h_z_54 g_h0) (fun z_57 _ h_z_57 => (lkp_fn_X13_onReference_B189 K h_z_57 g_h0))))) (lkp_fn_X13_onReference_B189 K h_z_45 g_h0))
theorem lkp_fn_X13_onReference_B111 {F : Nat} {sh : Nat → Nat × Nat} {n : Nat} {h0 : Nat} {z_68 : St} (K : Kp Q G) (h_z_68 : Q z_68) (g_h0 : G h0) : LkP Q (fn_X13_onReference_B111 F sh n h0 z_68) := by
  unfold fn_X13_onReference_B111
  exact (LkP.ite (LkP.xc (lkp_fn_X13_pointed K h_z_68) (fun z_70 r_71 h_z_70 => (LkP.xc (lkp_fn_X13_give K h_z_70 g_h0) (fun z_73 _ h_z_73 => (LkP.ret h_z_73))))) (LkP.ret h_z_68))
theorem lkp_fn_X13_onReference {F : Nat} {sh : Nat → Nat × Nat} {n : Nat} {z : St} {h0 : Nat} {x0 : Int32} {x1 : Int32} {x2 : Int32} (K : Kp Q G) (h_z : Q z) (g_h0 : G h0) : LkP Q (fn_X13_onReference F sh n z h0 x0 x1 x2) := by
  unfold fn_X13_onReference
  exact (LkP.ite (lkp_fn_X13_onReference_B12 K h_z g_h0) (LkP.ite (lkp_fn_X13_onReference_B12 K h_z g_h0) (LkP.ite (LkP.xg (LkP.xc (lkp_fn_X13_takeReference K h_z g_h0) (fun z_65 _ h_z_65 => (LkP.ite (LkP.xc (lkp_fn_X13_pointed K h_z_65) (fun z_76 r_77 h_z_76 => (LkP.xc (lkp_fn_X13_has K h_z_76 g_h0) (fun z_79 r_80 h_z_79 => (LkP.xc (lkp_fn_X13_need K h_z_79 g_h0) (fun z_82 _ h_z_82 => (lkp_fn_X13_onReference_B111 K h_z_82 g_h0))))))) (lkp_fn_X13_onReference_B111 K h_z_65 g_h0))))) (LkP.ite (LkP.xg (LkP.xc (lkp_fn_X13_takeReference K h_z g_h0) (fun z_41 _ h_z_41 => (LkP.ltv (fun v_44 => (LkP.ite (LkP.xc (lkp_fn_X13_pointed K h_z_41) (fun z_60 r_61 h_z_60 => (LkP.xc (lkp_fn_X13_take_ K h_z_60 g_h0) (fun z_63 _ h_z_63 => (lkp_fn_X13_onReference_B168 K h_z_63 g_h0))))) (lkp_fn_X13_onReference_B168 K h_z_41 g_h0))))))) (LkP.xg (LkP.xc (lkp_fn_X13_takeReference K h_z g_h0) (fun z_29 _ h_z_29 => (LkP.ite (LkP.xc (lkp_fn_X13_pointed K h_z_29) (fun z_33 r_34 h_z_33 => (LkP.xc (lkp_fn_X13_before K h_z_33) (fun z_36 r_37 h_z_36 => (LkP.xc (lkp_fn_X13_push K h_z_36 g_h0) (fun z_39 _ h_z_39 => (LkP.ret h_z_39))))))) (LkP.ret h_z_29)))))))))
theorem lkp_fn_X9_addPlace_B201 {F : Nat} {sh : Nat → Nat × Nat} {n : Nat} {h0 : Nat} {z_57 : St} {p_56 : Int32} (K : Kp Q G) (h_z_57 : Q z_57) (g_h0 : G h0) : LkP Q (fn_X9_addPlace_B201 F sh n h0 z_57 p_56) := by
  unfold fn_X9_addPlace_B201
  exact (LkP.xl (fun k_58 q => have g_k_58 := K.2.2.2.2.2 _ _ _ _ h_z_57 g_h0 q; (LkP.xg (LkP.lts (K.1 _ _ _ _ h_z_57 g_k_58) (fun z_61 h_z_61 => (LkP.lts (K.1 _ _ _ _ h_z_61 g_h0) (fun z_63 h_z_63 => (LkP.ret h_z_63))))))))
theorem lkp_fn_X9_addPlace_L154 {F : Nat} {sh : Nat → Nat × Nat} {n : Nat} {h0 : Nat} (K : Kp Q G) (g_h0 : G h0) : ∀ (f : Nat) (v1 : St) (v2 : Int32), Q v1 → LkP Q (fn_X9_addPlace_L154 F sh n h0 f v1 v2) := by
  intro f
  induction f with
  | zero => intros; exact LkP.none
  | succ f_55 ih =>
    intro z_54 p_53 h_z_54
    exact (LkP.ite (lkp_fn_X9_addPlace_B201 K h_z_54 g_h0) (LkP.xl (fun k_65 q => have g_k_65 := K.2.2.2.2.2 _ _ _ _ h_z_54 g_h0 q; (LkP.xg (LkP.xc (lkp_fn_X9_isBelow K h_z_54 g_h0) (fun z_67 r_68 h_z_67 => (LkP.ite (lkp_fn_X9_addPlace_B201 K h_z_67 g_h0) (LkP.xl (fun k_71 q => have g_k_71 := K.2.2.2.2.2 _ _ _ _ h_z_67 g_h0 q; (LkP.xl (fun k_72 q => have g_k_72 := K.2.2.2.2.2 _ _ _ _ h_z_67 g_h0 q; (LkP.xg (LkP.xg (LkP.lts (K.1 _ _ _ _ h_z_67 g_k_71) (fun z_76 h_z_76 => (ih _ _ h_z_76 ))))))))))))))))
theorem lkp_fn_X9_addPlace {F : Nat} {sh : Nat → Nat × Nat} {n : Nat} {z : St} {h0 : Nat} {x0 : Int32} {x1 : Int64} {x2 : Int32} {x3 : Int32} (K : Kp Q G) (h_z : Q z) (g_h0 : G h0) : LkP Q (fn_X9_addPlace F sh n z h0 x0 x1 x2 x3) := by
  unfold fn_X9_addPlace
  exact (LkP.xg (LkP.xl (fun k_2 q => have g_k_2 := K.2.2.2.2.2 _ _ _ _ h_z g_h0 q; (LkP.xg (LkP.xc (lkp_fn_X0_finish K h_z g_k_2) (fun z_3 _ h_z_3 => (LkP.ite (LkP.ltv (fun v_7 => (LkP.xl (fun k_8 q => have g_k_8 := K.2.2.2.2.2 _ _ _ _ h_z_3 g_h0 q; (LkP.xl (fun k_9 q => have g_k_9 := K.2.2.2.2.2 _ _ _ _ h_z_3 g_h0 q; (LkP.xg (LkP.xc (lkp_fn_X0_copyTo K h_z_3 g_k_8 g_k_9) (fun z_10 _ h_z_10 => (LkP.xl (fun k_13 q => have g_k_13 := K.2.2.2.2.2 _ _ _ _ h_z_10 g_h0 q; (LkP.xg (LkP.lts (K.2.1 _ _ _ _ h_z_10 g_k_13) (fun z_16 h_z_16 => (LkP.xl (fun k_17 q => have g_k_17 := K.2.2.2.2.2 _ _ _ _ h_z_16 g_h0 q; (LkP.xg (LkP.lts (K.2.1 _ _ _ _ h_z_16 g_k_17) (fun z_20 h_z_20 => (LkP.xl (fun k_21 q => have g_k_21 := K.2.2.2.2.2 _ _ _ _ h_z_20 g_h0 q; (LkP.xg (LkP.lts (K.2.1 _ _ _ _ h_z_20 g_k_21) (fun z_24 h_z_24 => (LkP.xl (fun k_25 q => have g_k_25 := K.2.2.2.2.2 _ _ _ _ h_z_24 g_h0 q; (LkP.xg (LkP.xc (lkp_fn_X0_start K h_z_24 g_k_25) (fun z_26 _ h_z_26 => (LkP.xl (fun k_29 q => have g_k_29 := K.2.2.2.2.2 _ _ _ _ h_z_26 g_h0 q; (LkP.xg (LkP.xc (lkp_fn_X0_put K h_z_26 g_k_29) (fun z_30 _ h_z_30 => (LkP.xl (fun k_33 q => have g_k_33 := K.2.2.2.2.2 _ _ _ _ h_z_30 g_h0 q; (LkP.xl (fun k_34 q => have g_k_34 := K.2.2.2.2.2 _ _ _ _ h_z_30 g_h0 q; (LkP.xg (LkP.xc (lkp_fn_X0_putLongs K h_z_30 g_k_33 g_k_34) (fun z_35 _ h_z_35 => (LkP.xl (fun k_38 q => have g_k_38 := K.2.2.2.2.2 _ _ _ _ h_z_35 g_h0 q; (LkP.xl (fun k_39 q => have g_k_39 := K.2.2.2.2.2 _ _ _ _ h_z_35 g_h0 q; (LkP.xg (LkP.xc (lkp_fn_X0_putLongs K h_z_35 g_k_38 g_k_39) (fun z_40 _ h_z_40 => (LkP.xl (fun k_43 q => have g_k_43 := K.2.2.2.2.2 _ _ _ _ h_z_40 g_h0 q; (LkP.xg (LkP.xc (lkp_fn_X0_finish K h_z_40 g_k_43) (fun z_44 _ h_z_44 => (LkP.xl (fun k_47 q => have g_k_47 := K.2.2.2.2.2 _ _ _ _ h_z_44 g_h0 q; (LkP.xl (fun k_48 q => have g_k_48 := K.2.2.2.2.2 _ _ _ _ h_z_44 g_h0 q; (LkP.xg (LkP.xc (lkp_fn_X0_copyTo K h_z_44 g_k_47 g_k_48) (fun z_49 _ h_z_49 => (LkP.ltv (fun v_52 => (lkp_fn_X9_addPlace_L154 K g_h0 _ _ _ h_z_49 ))))))))))))))))))))))))))))))))))))))))))))))))))))))))))))))) (LkP.ret h_z_3))))))))
theorem lkp_fn_X18_onResource_B165 {F : Nat} {sh : Nat → Nat × Nat} {n : Nat} {h0 : Nat} {x0 : Int32} {r_16 : Int32} {p_7 : Int32} {z_26 : St} {p_25 : Int32} (K : Kp Q G) (h_z_26 : Q z_26) (g_h0 : G h0) : LkP Q (fn_X18_onResource_B165 F sh n h0 x0 r_16 p_7 z_26 p_25) := by
  unfold fn_X18_onResource_B165
  exact (LkP.xc (lkp_fn_X18_spend K h_z_26 g_h0) (fun z_27 r_28 h_z_27 => (LkP.ite (LkP.ret h_z_27) (LkP.ite (LkP.xl (fun k_49 q => have g_k_49 := K.2.2.2.2.2 _ _ _ _ h_z_27 g_h0 q; (LkP.xg (LkP.lts (K.1 _ _ _ _ h_z_27 g_k_49) (fun z_52 h_z_52 => (LkP.xl (fun k_53 q => have g_k_53 := K.2.2.2.2.2 _ _ _ _ h_z_52 g_h0 q; (LkP.xg (LkP.lts (K.1 _ _ _ _ h_z_52 g_k_53) (fun z_56 h_z_56 => (LkP.ret h_z_56))))))))))) (LkP.ite (LkP.xl (fun k_37 q => have g_k_37 := K.2.2.2.2.2 _ _ _ _ h_z_27 g_h0 q; (LkP.xg (LkP.xc (lkp_fn_X18_push K h_z_27 g_h0) (fun z_39 _ h_z_39 => (LkP.xl (fun k_41 q => have g_k_41 := K.2.2.2.2.2 _ _ _ _ h_z_39 g_h0 q; (LkP.xg (LkP.lts (K.1 _ _ _ _ h_z_39 g_k_41) (fun z_44 h_z_44 => (LkP.xl (fun k_45 q => have g_k_45 := K.2.2.2.2.2 _ _ _ _ h_z_44 g_h0 q; (LkP.xg (LkP.lts (K.1 _ _ _ _ h_z_44 g_k_45) (fun z_48 h_z_48 => (LkP.ret h_z_48)))))))))))))))) (LkP.xl (fun k_33 q => have g_k_33 := K.2.2.2.2.2 _ _ _ _ h_z_27 g_h0 q; (LkP.xg (LkP.xc (lkp_fn_X18_push K h_z_27 g_h0) (fun z_35 _ h_z_35 => (LkP.ret h_z_35)))))))))))
theorem lkp_fn_X18_onResource_B131 {F : Nat} {sh : Nat → Nat × Nat} {n : Nat} {z_15 : St} {k_20 : Nat} {r_16 : Int32} {h0 : Nat} {x0 : Int32} {p_7 : Int32} {z_23 : St} {p_22 : Int32} (K : Kp Q G) (h_z_15 : Q z_15) (h_z_23 : Q z_23) (g_k_20 : G k_20) (g_h0 : G h0) : LkP Q (fn_X18_onResource_B131 F sh n z_15 k_20 r_16 h0 x0 p_7 z_23 p_22) := by
  unfold fn_X18_onResource_B131
  exact (LkP.ite (LkP.xc (lkp_fn_X18_end K h_z_23 g_h0) (fun z_63 _ h_z_63 => (LkP.ret h_z_63))) (LkP.ite (LkP.xl (fun k_58 q => have g_k_58 := K.2.2.2.2.2 _ _ _ _ h_z_23 g_h0 q; (LkP.xg (LkP.xc (lkp_fn_X15_sizeOf K  _ _ _ _ h_z_23 g_k_58) (fun z_59 r_60 h_z_59 => (lkp_fn_X18_onResource_B165 K h_z_59 g_h0)))))) (lkp_fn_X18_onResource_B165 K h_z_23 g_h0)))
theorem lkp_fn_X18_onResource_B64 {F : Nat} {sh : Nat → Nat × Nat} {n : Nat} {h0 : Nat} {r_4 : Int32} {x0 : Int32} {p_7 : Int32} {z_14 : St} {p_13 : Int64} (K : Kp Q G) (h_z_14 : Q z_14) (g_h0 : G h0) : LkP Q (fn_X18_onResource_B64 F sh n h0 r_4 x0 p_7 z_14 p_13) := by
  unfold fn_X18_onResource_B64
  exact (LkP.xc (lkp_fn_X18_ask K h_z_14 g_h0) (fun z_15 r_16 h_z_15 => (LkP.ite (LkP.ite (LkP.xc (lkp_fn_X18_spend K h_z_15 g_h0) (fun z_66 r_67 h_z_66 => (LkP.ite (LkP.ret h_z_66) (LkP.xl (fun k_70 q => have g_k_70 := K.2.2.2.2.2 _ _ _ _ h_z_66 g_h0 q; (LkP.xg (LkP.ite (LkP.xc (lkp_fn_X18_make K h_z_66 g_h0) (fun z_73 _ h_z_73 => (LkP.ret h_z_73))) (LkP.xc (lkp_fn_X18_make K h_z_66 g_h0) (fun z_75 _ h_z_75 => (LkP.ret h_z_75)))))))))) (LkP.xl (fun k_20 q => have g_k_20 := K.2.2.2.2.2 _ _ _ _ h_z_15 g_h0 q; (LkP.xg (LkP.ite (lkp_fn_X18_onResource_B131 K h_z_15 h_z_15 g_k_20 g_h0) (lkp_fn_X18_onResource_B131 K h_z_15 h_z_15 g_k_20 g_h0)))))) (LkP.ret h_z_15))))
theorem lkp_fn_X18_onResource_B29 {F : Nat} {sh : Nat → Nat × Nat} {n : Nat} {h0 : Nat} {x0 : Int32} {r_4 : Int32} {z_8 : St} {p_7 : Int32} (K : Kp Q G) (h_z_8 : Q z_8) (g_h0 : G h0) : LkP Q (fn_X18_onResource_B29 F sh n h0 x0 r_4 z_8 p_7) := by
  unfold fn_X18_onResource_B29
  exact (LkP.xc (lkp_fn_X18_goesOn K h_z_8 g_h0) (fun z_9 r_10 h_z_9 => (LkP.ite (LkP.ret h_z_9) (LkP.ite (lkp_fn_X18_onResource_B64 K h_z_9 g_h0) (LkP.xl (fun k_78 q => have g_k_78 := K.2.2.2.2.2 _ _ _ _ h_z_9 g_h0 q; (LkP.xg (LkP.xl (fun k_80 q => have g_k_80 := K.2.2.2.2.2 _ _ _ _ h_z_9 g_k_78 q; (LkP.xg (lkp_fn_X18_onResource_B64 K h_z_9 g_h0)))))))))))
theorem lkp_fn_X18_onResource {F : Nat} {sh : Nat → Nat × Nat} {n : Nat} {z : St} {h0 : Nat} {x0 : Int32} {x1 : Int32} (K : Kp Q G) (h_z : Q z) (g_h0 : G h0) : LkP Q (fn_X18_onResource F sh n z h0 x0 x1) := by
  unfold fn_X18_onResource
  exact (LkP.xg (LkP.xl (fun k_2 q => have g_k_2 := K.2.2.2.2.2 _ _ _ _ h_z g_h0 q; (LkP.xg (LkP.xc (lkp_fn_X16_identity K h_z g_k_2) (fun z_3 r_4 h_z_3 => (LkP.ite (LkP.xc (lkp_fn_X18_take K h_z_3 g_h0) (fun z_86 r_87 h_z_86 => (lkp_fn_X18_onResource_B29 K h_z_86 g_h0))) (LkP.xc (lkp_fn_X18_take K h_z_3 g_h0) (fun z_83 r_84 h_z_83 => (lkp_fn_X18_onResource_B29 K h_z_83 g_h0))))))))))
theorem lkp_fn_X4_keep_B137 {F : Nat} {sh : Nat → Nat × Nat} {n : Nat} {h0 : Nat} {x0 : Int32} {r_11 : Int32} {r_4 : Int32} {z_17 : St} {p_16 : Int32} (K : Kp Q G) (h_z_17 : Q z_17) (g_h0 : G h0) : LkP Q (fn_X4_keep_B137 F sh n h0 x0 r_11 r_4 z_17 p_16) := by
  unfold fn_X4_keep_B137
  exact (LkP.xc (lkp_fn_X4_pay K h_z_17 g_h0) (fun z_18 r_19 h_z_18 => (LkP.ite (LkP.ret h_z_18) (LkP.ite (LkP.xl (fun k_52 q => have g_k_52 := K.2.2.2.2.2 _ _ _ _ h_z_18 g_h0 q; (LkP.xg (LkP.xl (fun k_54 q => have g_k_54 := K.2.2.2.2.2 _ _ _ _ h_z_18 g_k_52 q; (LkP.xg (LkP.lts (K.1 _ _ _ _ h_z_18 g_k_54) (fun z_57 h_z_57 => (LkP.xl (fun k_58 q => have g_k_58 := K.2.2.2.2.2 _ _ _ _ h_z_57 g_h0 q; (LkP.xg (LkP.xl (fun k_60 q => have g_k_60 := K.2.2.2.2.2 _ _ _ _ h_z_57 g_k_58 q; (LkP.xg (LkP.lts (K.1 _ _ _ _ h_z_57 g_k_60) (fun z_63 h_z_63 => (LkP.ret h_z_63))))))))))))))))) (LkP.ite (LkP.xl (fun k_40 q => have g_k_40 := K.2.2.2.2.2 _ _ _ _ h_z_18 g_h0 q; (LkP.xg (LkP.xl (fun k_42 q => have g_k_42 := K.2.2.2.2.2 _ _ _ _ h_z_18 g_k_40 q; (LkP.xg (LkP.lts (K.1 _ _ _ _ h_z_18 g_k_42) (fun z_45 h_z_45 => (LkP.xl (fun k_46 q => have g_k_46 := K.2.2.2.2.2 _ _ _ _ h_z_45 g_h0 q; (LkP.xg (LkP.xl (fun k_48 q => have g_k_48 := K.2.2.2.2.2 _ _ _ _ h_z_45 g_k_46 q; (LkP.xg (LkP.xc (lkp_fn_X4_push K h_z_45 g_h0) (fun z_50 _ h_z_50 => (LkP.ret h_z_50))))))))))))))))) (LkP.ite (LkP.xl (fun k_31 q => have g_k_31 := K.2.2.2.2.2 _ _ _ _ h_z_18 g_h0 q; (LkP.xg (LkP.xl (fun k_33 q => have g_k_33 := K.2.2.2.2.2 _ _ _ _ h_z_18 g_k_31 q; (LkP.xg (LkP.ite (LkP.xc (lkp_fn_X4_pushNumber K h_z_18 g_h0) (fun z_36 _ h_z_36 => (LkP.ret h_z_36))) (LkP.xc (lkp_fn_X4_pushNumber K h_z_18 g_h0) (fun z_38 _ h_z_38 => (LkP.ret h_z_38)))))))))) (LkP.xl (fun k_25 q => have g_k_25 := K.2.2.2.2.2 _ _ _ _ h_z_18 g_h0 q; (LkP.xg (LkP.xl (fun k_27 q => have g_k_27 := K.2.2.2.2.2 _ _ _ _ h_z_18 g_k_25 q; (LkP.xg (LkP.xc (lkp_fn_X4_pushNumber K h_z_18 g_h0) (fun z_29 _ h_z_29 => (LkP.ret h_z_29)))))))))))))))
theorem lkp_fn_X4_keep_B113 {F : Nat} {sh : Nat → Nat × Nat} {n : Nat} {x0 : Int32} {h0 : Nat} {r_4 : Int32} {r_11 : Int32} {z_15 : St} (K : Kp Q G) (h_z_15 : Q z_15) (g_h0 : G h0) : LkP Q (fn_X4_keep_B113 F sh n x0 h0 r_4 r_11 z_15) := by
  unfold fn_X4_keep_B113
  exact (LkP.ite (LkP.xl (fun k_65 q => have g_k_65 := K.2.2.2.2.2 _ _ _ _ h_z_15 g_h0 q; (LkP.xg (LkP.xc (lkp_fn_X1_sizeOf K h_z_15 g_k_65) (fun z_66 r_67 h_z_66 => (lkp_fn_X4_keep_B137 K h_z_66 g_h0)))))) (lkp_fn_X4_keep_B137 K h_z_15 g_h0))
theorem lkp_fn_X4_keep_B101 {F : Nat} {sh : Nat → Nat × Nat} {n : Nat} {z_10 : St} {k_73 : Nat} {r_11 : Int32} {h0 : Nat} {x0 : Int32} {r_4 : Int32} {z_76 : St} {p_75 : Int32} (K : Kp Q G) (h_z_10 : Q z_10) (h_z_76 : Q z_76) (g_k_73 : G k_73) (g_h0 : G h0) : LkP Q (fn_X4_keep_B101 F sh n z_10 k_73 r_11 h0 x0 r_4 z_76 p_75) := by
  unfold fn_X4_keep_B101
  exact (LkP.ite (LkP.xc (lkp_fn_X4_end K h_z_76 g_h0) (fun z_78 _ h_z_78 => (LkP.ret h_z_78))) (lkp_fn_X4_keep_B113 K h_z_76 g_h0))
theorem lkp_fn_X4_keep_B44 {F : Nat} {sh : Nat → Nat × Nat} {n : Nat} {h0 : Nat} {x1 : Int32} {x2 : Int32} {x0 : Int32} {r_4 : Int32} {z_8 : St} {p_7 : Int64} (K : Kp Q G) (h_z_8 : Q z_8) (g_h0 : G h0) : LkP Q (fn_X4_keep_B44 F sh n h0 x1 x2 x0 r_4 z_8 p_7) := by
  unfold fn_X4_keep_B44
  exact (LkP.xl (fun k_9 q => have g_k_9 := K.2.2.2.2.2 _ _ _ _ h_z_8 g_h0 q; (LkP.xg (LkP.xc (lkp_fn_X2_ask K h_z_8 g_k_9) (fun z_10 r_11 h_z_10 => (LkP.ite (LkP.ite (lkp_fn_X4_keep_B113 K h_z_10 g_h0) (LkP.xl (fun k_71 q => have g_k_71 := K.2.2.2.2.2 _ _ _ _ h_z_10 g_h0 q; (LkP.xg (LkP.xl (fun k_73 q => have g_k_73 := K.2.2.2.2.2 _ _ _ _ h_z_10 g_k_71 q; (LkP.xg (LkP.ite (lkp_fn_X4_keep_B101 K h_z_10 h_z_10 g_k_73 g_h0) (lkp_fn_X4_keep_B101 K h_z_10 h_z_10 g_k_73 g_h0))))))))) (LkP.xc (lkp_fn_X4_end K h_z_10 g_h0) (fun z_81 _ h_z_81 => (LkP.ret h_z_81)))))))))
theorem lkp_fn_X4_keep_B13 {F : Nat} {sh : Nat → Nat × Nat} {n : Nat} {h0 : Nat} {x0 : Int32} {x1 : Int32} {x2 : Int32} {z_2 : St} {p_1 : Int32} (K : Kp Q G) (h_z_2 : Q z_2) (g_h0 : G h0) : LkP Q (fn_X4_keep_B13 F sh n h0 x0 x1 x2 z_2 p_1) := by
  unfold fn_X4_keep_B13
  exact (LkP.xg (LkP.xc (lkp_fn_X4_popOf K h_z_2 g_h0) (fun z_3 r_4 h_z_3 => (LkP.ite (LkP.xl (fun k_88 q => have g_k_88 := K.2.2.2.2.2 _ _ _ _ h_z_3 g_h0 q; (LkP.xg (lkp_fn_X4_keep_B44 K h_z_3 g_h0)))) (LkP.xl (fun k_84 q => have g_k_84 := K.2.2.2.2.2 _ _ _ _ h_z_3 g_h0 q; (LkP.xg (LkP.xl (fun k_86 q => have g_k_86 := K.2.2.2.2.2 _ _ _ _ h_z_3 g_k_84 q; (LkP.xg (lkp_fn_X4_keep_B44 K h_z_3 g_h0)))))))))))
theorem lkp_fn_X4_keep {F : Nat} {sh : Nat → Nat × Nat} {n : Nat} {z : St} {h0 : Nat} {x0 : Int32} {x1 : Int32} {x2 : Int32} (K : Kp Q G) (h_z : Q z) (g_h0 : G h0) : LkP Q (fn_X4_keep F sh n z h0 x0 x1 x2) := by
  unfold fn_X4_keep
  exact (LkP.ite (lkp_fn_X4_keep_B13 K h_z g_h0) (lkp_fn_X4_keep_B13 K h_z g_h0))
theorem lkp_fn_X4_reckon_B185 {F : Nat} {sh : Nat → Nat × Nat} {n : Nat} {h0 : Nat} {p_2 : Int32} {p_5 : Int32} {z_39 : St} {p_38 : Int32} (K : Kp Q G) (h_z_39 : Q z_39) (g_h0 : G h0) : LkP Q (fn_X4_reckon_B185 F sh n h0 p_2 p_5 z_39 p_38) := by
  unfold fn_X4_reckon_B185
  exact (LkP.xl (fun k_40 q => have g_k_40 := K.2.2.2.2.2 _ _ _ _ h_z_39 g_h0 q; (LkP.xg (LkP.xl (fun k_42 q => have g_k_42 := K.2.2.2.2.2 _ _ _ _ h_z_39 g_k_40 q; (LkP.xg (LkP.xl (fun k_44 q => have g_k_44 := K.2.2.2.2.2 _ _ _ _ h_z_39 g_h0 q; (LkP.xg (LkP.xl (fun k_46 q => have g_k_46 := K.2.2.2.2.2 _ _ _ _ h_z_39 g_k_44 q; (LkP.xg (LkP.xc (lkp_fn_X4_shift K h_z_39 g_h0) (fun z_48 _ h_z_48 => (LkP.ret h_z_48)))))))))))))))
theorem lkp_fn_X4_reckon_B125 {F : Nat} {sh : Nat → Nat × Nat} {n : Nat} {h0 : Nat} {x0 : Int32} {p_2 : Int32} {z_6 : St} {p_5 : Int32} (K : Kp Q G) (h_z_6 : Q z_6) (g_h0 : G h0) : LkP Q (fn_X4_reckon_B125 F sh n h0 x0 p_2 z_6 p_5) := by
  unfold fn_X4_reckon_B125
  exact (LkP.xg (LkP.xl (fun k_8 q => have g_k_8 := K.2.2.2.2.2 _ _ _ _ h_z_6 g_h0 q; (LkP.xl (fun k_9 q => have g_k_9 := K.2.2.2.2.2 _ _ _ _ h_z_6 g_h0 q; (LkP.xg (LkP.xl (fun k_11 q => have g_k_11 := K.2.2.2.2.2 _ _ _ _ h_z_6 g_k_9 q; (LkP.xg (LkP.xl (fun k_13 q => have g_k_13 := K.2.2.2.2.2 _ _ _ _ h_z_6 g_h0 q; (LkP.xg (LkP.xl (fun k_15 q => have g_k_15 := K.2.2.2.2.2 _ _ _ _ h_z_6 g_k_13 q; (LkP.xg (LkP.xg (LkP.xc (lkp_fn_X10_set K h_z_6 g_k_8) (fun z_17 _ h_z_17 => (LkP.ite (LkP.ite (LkP.xl (fun k_22 q => have g_k_22 := K.2.2.2.2.2 _ _ _ _ h_z_17 g_h0 q; (LkP.xg (LkP.xl (fun k_24 q => have g_k_24 := K.2.2.2.2.2 _ _ _ _ h_z_17 g_k_22 q; (LkP.xg (LkP.xl (fun k_26 q => have g_k_26 := K.2.2.2.2.2 _ _ _ _ h_z_17 g_h0 q; (LkP.xg (LkP.xl (fun k_28 q => have g_k_28 := K.2.2.2.2.2 _ _ _ _ h_z_17 g_k_26 q; (LkP.xg (LkP.xc (lkp_fn_X4_combine K h_z_17 g_h0) (fun z_30 _ h_z_30 => (LkP.xl (fun k_32 q => have g_k_32 := K.2.2.2.2.2 _ _ _ _ h_z_30 g_h0 q; (LkP.xg (LkP.xl (fun k_34 q => have g_k_34 := K.2.2.2.2.2 _ _ _ _ h_z_30 g_k_32 q; (LkP.xg (LkP.xc (lkp_fn_X4_pushWide K h_z_30 g_h0) (fun z_36 _ h_z_36 => (LkP.ret h_z_36))))))))))))))))))))))) (LkP.ite (lkp_fn_X4_reckon_B185 K h_z_17 g_h0) (lkp_fn_X4_reckon_B185 K h_z_17 g_h0))) (LkP.xc (lkp_fn_X4_compare K h_z_17 g_h0) (fun z_51 _ h_z_51 => (LkP.ret h_z_51))))))))))))))))))))))
theorem lkp_fn_X4_reckon_B105 {F : Nat} {sh : Nat → Nat × Nat} {n : Nat} {h0 : Nat} {x0 : Int32} {p_2 : Int32} {z_53 : St} (K : Kp Q G) (h_z_53 : Q z_53) (g_h0 : G h0) : LkP Q (fn_X4_reckon_B105 F sh n h0 x0 p_2 z_53) := by
  unfold fn_X4_reckon_B105
  exact (LkP.xg (LkP.xc (lkp_fn_X4_pop K h_z_53 g_h0) (fun z_54 r_55 h_z_54 => (lkp_fn_X4_reckon_B125 K h_z_54 g_h0))))
theorem lkp_fn_X4_reckon_B52 {F : Nat} {sh : Nat → Nat × Nat} {n : Nat} {x0 : Int32} {h0 : Nat} {z_3 : St} {p_2 : Int32} (K : Kp Q G) (h_z_3 : Q z_3) (g_h0 : G h0) : LkP Q (fn_X4_reckon_B52 F sh n x0 h0 z_3 p_2) := by
  unfold fn_X4_reckon_B52
  exact (LkP.ite (LkP.ite (lkp_fn_X4_reckon_B105 K h_z_3 g_h0) (LkP.ite (lkp_fn_X4_reckon_B105 K h_z_3 g_h0) (LkP.xg (LkP.xl (fun k_61 q => have g_k_61 := K.2.2.2.2.2 _ _ _ _ h_z_3 g_h0 q; (LkP.xg (LkP.xl (fun k_63 q => have g_k_63 := K.2.2.2.2.2 _ _ _ _ h_z_3 g_k_61 q; (LkP.xg (LkP.xc (lkp_fn_X4_popOf K h_z_3 g_h0) (fun z_65 r_66 h_z_65 => (lkp_fn_X4_reckon_B125 K h_z_65 g_h0)))))))))))) (LkP.xg (LkP.xl (fun k_69 q => have g_k_69 := K.2.2.2.2.2 _ _ _ _ h_z_3 g_h0 q; (LkP.xl (fun k_70 q => have g_k_70 := K.2.2.2.2.2 _ _ _ _ h_z_3 g_h0 q; (LkP.xg (LkP.xl (fun k_72 q => have g_k_72 := K.2.2.2.2.2 _ _ _ _ h_z_3 g_k_70 q; (LkP.xg (LkP.xl (fun k_74 q => have g_k_74 := K.2.2.2.2.2 _ _ _ _ h_z_3 g_h0 q; (LkP.xg (LkP.xl (fun k_76 q => have g_k_76 := K.2.2.2.2.2 _ _ _ _ h_z_3 g_k_74 q; (LkP.xg (LkP.xg (LkP.xc (lkp_fn_X10_set K h_z_3 g_k_69) (fun z_78 _ h_z_78 => (LkP.xc (lkp_fn_X4_pushWide K h_z_78 g_h0) (fun z_81 _ h_z_81 => (LkP.ret h_z_81))))))))))))))))))))))
theorem lkp_fn_X4_reckon_B40 {F : Nat} {sh : Nat → Nat × Nat} {n : Nat} {h0 : Nat} {x0 : Int32} {z_83 : St} (K : Kp Q G) (h_z_83 : Q z_83) (g_h0 : G h0) : LkP Q (fn_X4_reckon_B40 F sh n h0 x0 z_83) := by
  unfold fn_X4_reckon_B40
  exact (LkP.xg (LkP.xc (lkp_fn_X4_popOf K h_z_83 g_h0) (fun z_84 r_85 h_z_84 => (lkp_fn_X4_reckon_B52 K h_z_84 g_h0))))
theorem lkp_fn_X4_reckon {F : Nat} {sh : Nat → Nat × Nat} {n : Nat} {z : St} {h0 : Nat} {x0 : Int32} (K : Kp Q G) (h_z : Q z) (g_h0 : G h0) : LkP Q (fn_X4_reckon F sh n z h0 x0) := by
  unfold fn_X4_reckon
  exact (LkP.ite (LkP.xg (LkP.xl (fun k_95 q => have g_k_95 := K.2.2.2.2.2 _ _ _ _ h_z g_h0 q; (LkP.xg (LkP.xl (fun k_97 q => have g_k_97 := K.2.2.2.2.2 _ _ _ _ h_z g_k_95 q; (LkP.xc (lkp_fn_X4_popOf K h_z g_h0) (fun z_98 r_99 h_z_98 => (LkP.xg (LkP.xc (lkp_fn_X4_pushNumber K h_z_98 g_h0) (fun z_102 _ h_z_102 => (LkP.ret h_z_102)))))))))))) (LkP.ite (lkp_fn_X4_reckon_B40 K h_z g_h0) (LkP.ite (lkp_fn_X4_reckon_B40 K h_z g_h0) (LkP.xg (LkP.xc (lkp_fn_X4_pop K h_z g_h0) (fun z_90 r_91 h_z_90 => (lkp_fn_X4_reckon_B52 K h_z_90 g_h0)))))))
theorem lkp_fn_X4_useCoin_B45 {F : Nat} {sh : Nat → Nat × Nat} {n : Nat} {h0 : Nat} {x0 : Int32} {z_2 : St} {p_1 : Int32} (K : Kp Q G) (h_z_2 : Q z_2) (g_h0 : G h0) : LkP Q (fn_X4_useCoin_B45 F sh n h0 x0 z_2 p_1) := by
  unfold fn_X4_useCoin_B45
  exact (LkP.ite (LkP.xg (LkP.xc (lkp_fn_X4_pay K h_z_2 g_h0) (fun z_4 r_5 h_z_4 => (LkP.ite (LkP.ret h_z_4) (LkP.xl (fun k_9 q => have g_k_9 := K.2.2.2.2.2 _ _ _ _ h_z_4 g_h0 q; (LkP.xg (LkP.xl (fun k_11 q => have g_k_11 := K.2.2.2.2.2 _ _ _ _ h_z_4 g_k_9 q; (LkP.xc (lkp_fn_X4_peek K h_z_4 g_h0) (fun z_12 r_13 h_z_12 => (LkP.xg (LkP.ltv (fun v_16 => (LkP.ite (LkP.xc (lkp_fn_X4_withdraw K h_z_12 g_h0) (fun z_76 _ h_z_76 => (LkP.ret h_z_76))) (LkP.ite (LkP.xc (lkp_fn_X4_popOf K h_z_12 g_h0) (fun z_57 r_58 h_z_57 => (LkP.xc (lkp_fn_X4_popOf K h_z_57 g_h0) (fun z_60 r_61 h_z_60 => (LkP.xl (fun k_63 q => have g_k_63 := K.2.2.2.2.2 _ _ _ _ h_z_60 g_h0 q; (LkP.xg (LkP.xl (fun k_65 q => have g_k_65 := K.2.2.2.2.2 _ _ _ _ h_z_60 g_k_63 q; (LkP.xg (LkP.lts (K.1 _ _ _ _ h_z_60 g_k_65) (fun z_68 h_z_68 => (LkP.xl (fun k_69 q => have g_k_69 := K.2.2.2.2.2 _ _ _ _ h_z_68 g_h0 q; (LkP.xg (LkP.xl (fun k_71 q => have g_k_71 := K.2.2.2.2.2 _ _ _ _ h_z_68 g_k_69 q; (LkP.xg (LkP.xg (LkP.lts (K.2.1 _ _ _ _ h_z_68 g_k_71) (fun z_75 h_z_75 => (LkP.ret h_z_75)))))))))))))))))))))) (LkP.ite (LkP.xl (fun k_45 q => have g_k_45 := K.2.2.2.2.2 _ _ _ _ h_z_12 g_h0 q; (LkP.xg (LkP.xl (fun k_47 q => have g_k_47 := K.2.2.2.2.2 _ _ _ _ h_z_12 g_k_45 q; (LkP.xc (lkp_fn_X4_pop K h_z_12 g_h0) (fun z_48 r_49 h_z_48 => (LkP.xc (lkp_fn_X4_target K h_z_48 g_h0) (fun z_51 r_52 h_z_51 => (LkP.xg (LkP.xc (lkp_fn_X4_pushNumber K h_z_51 g_h0) (fun z_55 _ h_z_55 => (LkP.ret h_z_55))))))))))))) (LkP.ite (LkP.xc (lkp_fn_X4_popOf K h_z_12 g_h0) (fun z_33 r_34 h_z_33 => (LkP.xl (fun k_36 q => have g_k_36 := K.2.2.2.2.2 _ _ _ _ h_z_33 g_h0 q; (LkP.xg (LkP.xl (fun k_38 q => have g_k_38 := K.2.2.2.2.2 _ _ _ _ h_z_33 g_k_36 q; (LkP.xc (lkp_fn_X4_popOf K h_z_33 g_h0) (fun z_39 r_40 h_z_39 => (LkP.xg (LkP.xc (lkp_fn_X4_pushNumber K h_z_39 g_h0) (fun z_43 _ h_z_43 => (LkP.ret h_z_43))))))))))))) (LkP.ite (LkP.xc (lkp_fn_X4_split K h_z_12 g_h0) (fun z_31 _ h_z_31 => (LkP.ret h_z_31))) (LkP.xc (lkp_fn_X4_popOf K h_z_12 g_h0) (fun z_22 r_23 h_z_22 => (LkP.xl (fun k_25 q => have g_k_25 := K.2.2.2.2.2 _ _ _ _ h_z_22 g_h0 q; (LkP.xg (LkP.xl (fun k_27 q => have g_k_27 := K.2.2.2.2.2 _ _ _ _ h_z_22 g_k_25 q; (LkP.xg (LkP.xc (lkp_fn_X4_pushNumber K h_z_22 g_h0) (fun z_29 _ h_z_29 => (LkP.ret h_z_29)))))))))))))))))))))))))))))) (LkP.xg (LkP.xc (lkp_fn_X4_end K h_z_2 g_h0) (fun z_78 _ h_z_78 => (LkP.ret h_z_78)))))
theorem lkp_fn_X4_useCoin_B35 {F : Nat} {sh : Nat → Nat × Nat} {n : Nat} {h0 : Nat} {k_86 : Nat} {k_83 : Nat} {x0 : Int32} {z_88 : St} {p_87 : Int32} (K : Kp Q G) (h_z_88 : Q z_88) (g_h0 : G h0) (g_k_86 : G k_86) (g_k_83 : G k_83) : LkP Q (fn_X4_useCoin_B35 F sh n h0 k_86 k_83 x0 z_88 p_87) := by
  unfold fn_X4_useCoin_B35
  exact (LkP.xc (lkp_fn_X4_peek K h_z_88 g_h0) (fun z_89 r_90 h_z_89 => (LkP.xg (LkP.xg (LkP.xc (lkp_fn_X2_ask K h_z_89 g_k_83) (fun z_93 r_94 h_z_93 => (lkp_fn_X4_useCoin_B45 K h_z_93 g_h0)))))))
theorem lkp_fn_X4_useCoin_B12 {F : Nat} {sh : Nat → Nat × Nat} {n : Nat} {h0 : Nat} {x0 : Int32} {z_81 : St} (K : Kp Q G) (h_z_81 : Q z_81) (g_h0 : G h0) : LkP Q (fn_X4_useCoin_B12 F sh n h0 x0 z_81) := by
  unfold fn_X4_useCoin_B12
  exact (LkP.xg (LkP.xl (fun k_83 q => have g_k_83 := K.2.2.2.2.2 _ _ _ _ h_z_81 g_h0 q; (LkP.xl (fun k_84 q => have g_k_84 := K.2.2.2.2.2 _ _ _ _ h_z_81 g_h0 q; (LkP.xg (LkP.xl (fun k_86 q => have g_k_86 := K.2.2.2.2.2 _ _ _ _ h_z_81 g_k_84 q; (LkP.ite (lkp_fn_X4_useCoin_B35 K h_z_81 g_h0 g_k_86 g_k_83) (lkp_fn_X4_useCoin_B35 K h_z_81 g_h0 g_k_86 g_k_83))))))))))
theorem lkp_fn_X4_useCoin {F : Nat} {sh : Nat → Nat × Nat} {n : Nat} {z : St} {h0 : Nat} {x0 : Int32} (K : Kp Q G) (h_z : Q z) (g_h0 : G h0) : LkP Q (fn_X4_useCoin F sh n z h0 x0) := by
  unfold fn_X4_useCoin
  exact (LkP.ite (lkp_fn_X4_useCoin_B12 K h_z g_h0) (LkP.ite (lkp_fn_X4_useCoin_B12 K h_z g_h0) (lkp_fn_X4_useCoin_B45 K h_z g_h0)))
theorem lkp_fn_X6_readFunctions_B270 {F : Nat} {sh : Nat → Nat × Nat} {n : Nat} {p_9 : Int32} {ko18 : St → Int32 → Option (St × Unit)} {z_82 : St} (K : Kp Q G) (h_z_82 : Q z_82) (hko_ko18 : ∀ (w0 : St) (w1 : Int32), Q w0 → LkP Q (ko18 w0 w1)) : LkP Q (fn_X6_readFunctions_B270 F sh n p_9 ko18 z_82) := by
  unfold fn_X6_readFunctions_B270
  exact (hko_ko18 _ _ h_z_82 )
theorem lkp_fn_X6_readFunctions_L244 {F : Nat} {sh : Nat → Nat × Nat} {n : Nat} {h0 : Nat} {p_9 : Int32} {ko18 : St → Int32 → Option (St × Unit)} (K : Kp Q G) (g_h0 : G h0) (hko_ko18 : ∀ (w0 : St) (w1 : Int32), Q w0 → LkP Q (ko18 w0 w1)) : ∀ (f : Nat) (v1 : St) (v2 : Int32), Q v1 → LkP Q (fn_X6_readFunctions_L244 F sh n h0 p_9 ko18 f v1 v2) := by
  intro f
  induction f with
  | zero => intros; exact LkP.none
  | succ f_81 ih =>
    intro z_80 p_79 h_z_80
    exact (LkP.ite (lkp_fn_X6_readFunctions_B270 K h_z_80 (fun z9 q2 hk_z9 => (hko_ko18 _ _ hk_z9 ))) (LkP.ite (LkP.xc (lkp_fn_X6_readInstruction K h_z_80 g_h0) (fun z_85 _ h_z_85 => (ih _ _ h_z_85 ))) (lkp_fn_X6_readFunctions_B270 K h_z_80 (fun z9 q2 hk_z9 => (hko_ko18 _ _ hk_z9 )))))
theorem lkp_fn_X6_readFunctions_B211 {F : Nat} {sh : Nat → Nat × Nat} {n : Nat} {h0 : Nat} {p_9 : Int32} {ko18 : St → Int32 → Option (St × Unit)} {z_68 : St} (K : Kp Q G) (h_z_68 : Q z_68) (g_h0 : G h0) (hko_ko18 : ∀ (w0 : St) (w1 : Int32), Q w0 → LkP Q (ko18 w0 w1)) : LkP Q (fn_X6_readFunctions_B211 F sh n h0 p_9 ko18 z_68) := by
  unfold fn_X6_readFunctions_B211
  exact (LkP.xl (fun k_69 q => have g_k_69 := K.2.2.2.2.2 _ _ _ _ h_z_68 g_h0 q; (LkP.xl (fun k_70 q => have g_k_70 := K.2.2.2.2.2 _ _ _ _ h_z_68 g_h0 q; (LkP.xg (LkP.xg (LkP.xc (lkp_fn_X5_setFunction K h_z_68 g_k_69) (fun z_72 _ h_z_72 => (LkP.xl (fun k_75 q => have g_k_75 := K.2.2.2.2.2 _ _ _ _ h_z_72 g_h0 q; (LkP.xg (LkP.xc (lkp_fn_X5_setFunction K h_z_72 g_k_75) (fun z_76 _ h_z_76 => (lkp_fn_X6_readFunctions_L244 K g_h0 (fun z9 q2 hk_z9 => (hko_ko18 _ _ hk_z9 )) _ _ _ h_z_76 ))))))))))))))
theorem lkp_fn_X6_readFunctions_B204 {F : Nat} {sh : Nat → Nat × Nat} {n : Nat} {h0 : Nat} {v_60 : Int32} {p_9 : Int32} {ko18 : St → Int32 → Option (St × Unit)} {z_87 : St} (K : Kp Q G) (h_z_87 : Q z_87) (g_h0 : G h0) (hko_ko18 : ∀ (w0 : St) (w1 : Int32), Q w0 → LkP Q (ko18 w0 w1)) : LkP Q (fn_X6_readFunctions_B204 F sh n h0 v_60 p_9 ko18 z_87) := by
  unfold fn_X6_readFunctions_B204
  exact (LkP.xc (lkp_fn_X6_fail K h_z_87 g_h0) (fun z_88 _ h_z_88 => (lkp_fn_X6_readFunctions_B211 K h_z_88 g_h0 (fun z9 q2 hk_z9 => (hko_ko18 _ _ hk_z9 )))))
theorem lkp_fn_X6_readFunctions_L18 {F : Nat} {sh : Nat → Nat × Nat} {n : Nat} {r_2 : Int32} {h0 : Nat} (K : Kp Q G) (g_h0 : G h0) : ∀ (f : Nat) (v1 : St) (v2 : Int32), Q v1 → LkP Q (fn_X6_readFunctions_L18 F sh n r_2 h0 f v1 v2) := by
  intro f
  induction f with
  | zero => intros; exact LkP.none
  | succ f_11 ih =>
    intro z_10 p_9 h_z_10
    exact (LkP.ite (LkP.ret h_z_10) (LkP.ite (LkP.xl (fun k_14 q => have g_k_14 := K.2.2.2.2.2 _ _ _ _ h_z_10 g_h0 q; (LkP.xl (fun k_15 q => have g_k_15 := K.2.2.2.2.2 _ _ _ _ h_z_10 g_h0 q; (LkP.xg (LkP.xg (LkP.xc (lkp_fn_X5_setFunction K h_z_10 g_k_14) (fun z_17 _ h_z_17 => (LkP.xl (fun k_20 q => have g_k_20 := K.2.2.2.2.2 _ _ _ _ h_z_17 g_h0 q; (LkP.xg (LkP.xc (lkp_fn_X5_setFunction K h_z_17 g_k_20) (fun z_21 _ h_z_21 => (LkP.xl (fun k_24 q => have g_k_24 := K.2.2.2.2.2 _ _ _ _ h_z_21 g_h0 q; (LkP.xc (lkp_fn_X6_readNumber K h_z_21 g_h0) (fun z_25 r_26 h_z_25 => (LkP.xg (LkP.xc (lkp_fn_X5_setFunction K h_z_25 g_k_24) (fun z_28 _ h_z_28 => (LkP.xl (fun k_31 q => have g_k_31 := K.2.2.2.2.2 _ _ _ _ h_z_28 g_h0 q; (LkP.xl (fun k_32 q => have g_k_32 := K.2.2.2.2.2 _ _ _ _ h_z_28 g_h0 q; (LkP.xg (LkP.xg (LkP.xc (lkp_fn_X5_setFunction K h_z_28 g_k_31) (fun z_34 _ h_z_34 => (LkP.xc (lkp_fn_X6_readList K h_z_34 g_h0) (fun z_37 r_38 h_z_37 => (LkP.xl (fun k_40 q => have g_k_40 := K.2.2.2.2.2 _ _ _ _ h_z_37 g_h0 q; (LkP.xg (LkP.xc (lkp_fn_X5_setFunction K h_z_37 g_k_40) (fun z_41 _ h_z_41 => (LkP.xl (fun k_44 q => have g_k_44 := K.2.2.2.2.2 _ _ _ _ h_z_41 g_h0 q; (LkP.xc (lkp_fn_X6_readList K h_z_41 g_h0) (fun z_45 r_46 h_z_45 => (LkP.xg (LkP.xc (lkp_fn_X5_setFunction K h_z_45 g_k_44) (fun z_48 _ h_z_48 => (LkP.xc (lkp_fn_X6_readList K h_z_48 g_h0) (fun z_51 r_52 h_z_51 => (LkP.xl (fun k_54 q => have g_k_54 := K.2.2.2.2.2 _ _ _ _ h_z_51 g_h0 q; (LkP.xg (LkP.xc (lkp_fn_X5_setFunction K h_z_51 g_k_54) (fun z_55 _ h_z_55 => (LkP.lts (K.1 _ _ _ _ h_z_55 g_h0) (fun z_59 h_z_59 => (LkP.ltv (fun v_60 => (LkP.xc (lkp_fn_X6_readShort K h_z_59 g_h0) (fun z_61 r_62 h_z_61 => (LkP.lts (K.1 _ _ _ _ h_z_61 g_h0) (fun z_65 h_z_65 => (LkP.lts (K.1 _ _ _ _ h_z_65 g_h0) (fun z_67 h_z_67 => (LkP.ite (lkp_fn_X6_readFunctions_B204 K h_z_67 g_h0 (fun z9 q2 hk_z9 => (ih _ _ hk_z9 ))) (LkP.ite (lkp_fn_X6_readFunctions_B204 K h_z_67 g_h0 (fun z9 q2 hk_z9 => (ih _ _ hk_z9 ))) (LkP.ite (lkp_fn_X6_readFunctions_B211 K h_z_67 g_h0 (fun z9 q2 hk_z9 => (ih _ _ hk_z9 ))) (lkp_fn_X6_readFunctions_B204 K h_z_67 g_h0 (fun z9 q2 hk_z9 => (ih _ _ hk_z9 ))))))))))))))))))))))))))))))))))))))))))))))))))))))))))))))))) (LkP.ret h_z_10)))
theorem lkp_fn_X6_readFunctions {F : Nat} {sh : Nat → Nat × Nat} {n : Nat} {z : St} {h0 : Nat} (K : Kp Q G) (h_z : Q z) (g_h0 : G h0) : LkP Q (fn_X6_readFunctions F sh n z h0) := by
  unfold fn_X6_readFunctions
  exact (LkP.xg (LkP.xc (lkp_fn_X6_readNumber K h_z g_h0) (fun z_1 r_2 h_z_1 => (LkP.xl (fun k_5 q => have g_k_5 := K.2.2.2.2.2 _ _ _ _ h_z_1 g_h0 q; (LkP.xg (LkP.lts (K.1 _ _ _ _ h_z_1 g_k_5) (fun z_8 h_z_8 => (lkp_fn_X6_readFunctions_L18 K g_h0 _ _ _ h_z_8 )))))))))
theorem lkp_fn_X3_operate_B248 {F : Nat} {sh : Nat → Nat × Nat} {n : Nat} {h0 : Nat} {r_4 : Int32} {r_9 : Int32} {z_22 : St} (K : Kp Q G) (h_z_22 : Q z_22) (g_h0 : G h0) : LkP Q (fn_X3_operate_B248 F sh n h0 r_4 r_9 z_22) := by
  unfold fn_X3_operate_B248
  exact (LkP.ite (LkP.xl (fun k_24 q => have g_k_24 := K.2.2.2.2.2 _ _ _ _ h_z_22 g_h0 q; (LkP.xg (LkP.xc (lkp_fn_X5_numberAt K h_z_22 g_k_24) (fun z_25 r_26 h_z_25 => (LkP.xc (lkp_fn_X3_leave K h_z_25 g_h0) (fun z_29 _ h_z_29 => (LkP.ret h_z_29)))))))) (LkP.ret h_z_22))
theorem lkp_fn_X3_operate_B71 {F : Nat} {sh : Nat → Nat × Nat} {n : Nat} {h0 : Nat} {r_9 : Int32} {r_4 : Int32} {z_32 : St} (K : Kp Q G) (h_z_32 : Q z_32) (g_h0 : G h0) : LkP Q (fn_X3_operate_B71 F sh n h0 r_9 r_4 z_32) := by
  unfold fn_X3_operate_B71
  exact (LkP.xc (lkp_fn_X3_steer K h_z_32 g_h0) (fun z_33 _ h_z_33 => (lkp_fn_X3_operate_B248 K h_z_33 g_h0)))
theorem lkp_fn_X3_operate_B97 {F : Nat} {sh : Nat → Nat × Nat} {n : Nat} {h0 : Nat} {r_9 : Int32} {r_4 : Int32} {z_37 : St} (K : Kp Q G) (h_z_37 : Q z_37) (g_h0 : G h0) : LkP Q (fn_X3_operate_B97 F sh n h0 r_9 r_4 z_37) := by
  unfold fn_X3_operate_B97
  exact (LkP.xc (lkp_fn_X3_set K h_z_37 g_h0) (fun z_38 _ h_z_38 => (lkp_fn_X3_operate_B248 K h_z_38 g_h0)))
theorem lkp_fn_X3_operate_B190 {F : Nat} {sh : Nat → Nat × Nat} {n : Nat} {h0 : Nat} {r_14 : Int32} {r_4 : Int32} {r_9 : Int32} {z_59 : St} {p_58 : Int32} (K : Kp Q G) (h_z_59 : Q z_59) (g_h0 : G h0) : LkP Q (fn_X3_operate_B190 F sh n h0 r_14 r_4 r_9 z_59 p_58) := by
  unfold fn_X3_operate_B190
  exact (LkP.xc (lkp_fn_X3_pack K h_z_59 g_h0) (fun z_60 _ h_z_60 => (lkp_fn_X3_operate_B248 K h_z_60 g_h0)))
theorem lkp_fn_X3_operate_B143 {F : Nat} {sh : Nat → Nat × Nat} {n : Nat} {r_14 : Int32} {h0 : Nat} {r_4 : Int32} {r_9 : Int32} {z_66 : St} {p_65 : Int32} (K : Kp Q G) (h_z_66 : Q z_66) (g_h0 : G h0) : LkP Q (fn_X3_operate_B143 F sh n r_14 h0 r_4 r_9 z_66 p_65) := by
  unfold fn_X3_operate_B143
  exact (LkP.ltv (fun v_67 => (LkP.xc (lkp_fn_X3_borrowLocal K h_z_66 g_h0) (fun z_68 _ h_z_68 => (lkp_fn_X3_operate_B248 K h_z_68 g_h0)))))
theorem lkp_fn_X3_operate {F : Nat} {sh : Nat → Nat × Nat} {n : Nat} {z : St} {h0 : Nat} (K : Kp Q G) (h_z : Q z) (g_h0 : G h0) : LkP Q (fn_X3_operate F sh n z h0) := by
  unfold fn_X3_operate
  exact (LkP.xg (LkP.xl (fun k_2 q => have g_k_2 := K.2.2.2.2.2 _ _ _ _ h_z g_h0 q; (LkP.xg (LkP.xc (lkp_fn_X5_instructionPlace K h_z g_k_2) (fun z_3 r_4 h_z_3 => (LkP.xl (fun k_7 q => have g_k_7 := K.2.2.2.2.2 _ _ _ _ h_z_3 g_h0 q; (LkP.xg (LkP.xc (lkp_fn_X5_at K h_z_3 g_k_7) (fun z_8 r_9 h_z_8 => (LkP.xl (fun k_12 q => have g_k_12 := K.2.2.2.2.2 _ _ _ _ h_z_8 g_h0 q; (LkP.xg (LkP.xc (lkp_fn_X5_at K h_z_8 g_k_12) (fun z_13 r_14 h_z_13 => (LkP.xl (fun k_17 q => have g_k_17 := K.2.2.2.2.2 _ _ _ _ h_z_13 g_h0 q; (LkP.xg (LkP.xc (lkp_fn_X5_at K h_z_13 g_k_17) (fun z_18 r_19 h_z_18 => (LkP.ite (LkP.xc (lkp_fn_X3_giveBack K h_z_18 g_h0) (fun z_74 _ h_z_74 => (lkp_fn_X3_operate_B248 K h_z_74 g_h0))) (LkP.ite (lkp_fn_X3_operate_B71 K h_z_18 g_h0) (LkP.ite (lkp_fn_X3_operate_B71 K h_z_18 g_h0) (LkP.ite (lkp_fn_X3_operate_B97 K h_z_18 g_h0) (LkP.ite (lkp_fn_X3_operate_B97 K h_z_18 g_h0) (LkP.ite (lkp_fn_X3_operate_B97 K h_z_18 g_h0) (LkP.ite (LkP.ite (LkP.ite (LkP.ite (LkP.ite (LkP.xc (lkp_fn_X3_enter K h_z_18 g_h0) (fun z_56 _ h_z_56 => (lkp_fn_X3_operate_B248 K h_z_56 g_h0))) (LkP.ite (LkP.ite (LkP.xc (lkp_fn_X3_lineUp K h_z_18 g_h0) (fun z_50 _ h_z_50 => (lkp_fn_X3_operate_B248 K h_z_50 g_h0))) (LkP.xc (lkp_fn_X3_keep K h_z_18 g_h0) (fun z_52 _ h_z_52 => (lkp_fn_X3_operate_B248 K h_z_52 g_h0)))) (LkP.xc (lkp_fn_X3_reckon K h_z_18 g_h0) (fun z_54 _ h_z_54 => (lkp_fn_X3_operate_B248 K h_z_54 g_h0))))) (LkP.ite (lkp_fn_X3_operate_B190 K h_z_18 g_h0) (lkp_fn_X3_operate_B190 K h_z_18 g_h0))) (LkP.xc (lkp_fn_X3_refer K h_z_18 g_h0) (fun z_63 _ h_z_63 => (lkp_fn_X3_operate_B248 K h_z_63 g_h0)))) (LkP.ite (lkp_fn_X3_operate_B143 K h_z_18 g_h0) (lkp_fn_X3_operate_B143 K h_z_18 g_h0))) (LkP.ltv (fun v_71 => (LkP.xc (lkp_fn_X3_useLocal K h_z_18 g_h0) (fun z_72 _ h_z_72 => (lkp_fn_X3_operate_B248 K h_z_72 g_h0)))))))))))))))))))))))))))))))))
theorem lkp_fn_X9_climb_B214 {F : Nat} {sh : Nat → Nat × Nat} {n : Nat} {h0 : Nat} {p_21 : Int32} {ko50 : St → Int32 → Option (St × Unit)} {z_52 : St} (K : Kp Q G) (h_z_52 : Q z_52) (g_h0 : G h0) (hko_ko50 : ∀ (w0 : St) (w1 : Int32), Q w0 → LkP Q (ko50 w0 w1)) : LkP Q (fn_X9_climb_B214 F sh n h0 p_21 ko50 z_52) := by
  unfold fn_X9_climb_B214
  exact (LkP.xl (fun k_53 q => have g_k_53 := K.2.2.2.2.2 _ _ _ _ h_z_52 g_h0 q; (LkP.xg (LkP.xc (lkp_fn_X0_finish K h_z_52 g_k_53) (fun z_54 _ h_z_54 => (LkP.xl (fun k_57 q => have g_k_57 := K.2.2.2.2.2 _ _ _ _ h_z_54 g_h0 q; (LkP.xl (fun k_58 q => have g_k_58 := K.2.2.2.2.2 _ _ _ _ h_z_54 g_h0 q; (LkP.xg (LkP.xc (lkp_fn_X0_copyTo K h_z_54 g_k_57 g_k_58) (fun z_59 _ h_z_59 => (hko_ko50 _ _ h_z_59 )))))))))))))
theorem lkp_fn_X9_climb_B202 {F : Nat} {sh : Nat → Nat × Nat} {n : Nat} {h0 : Nat} {p_21 : Int32} {ko50 : St → Int32 → Option (St × Unit)} {z_63 : St} (K : Kp Q G) (h_z_63 : Q z_63) (g_h0 : G h0) (hko_ko50 : ∀ (w0 : St) (w1 : Int32), Q w0 → LkP Q (ko50 w0 w1)) : LkP Q (fn_X9_climb_B202 F sh n h0 p_21 ko50 z_63) := by
  unfold fn_X9_climb_B202
  exact (LkP.xl (fun k_64 q => have g_k_64 := K.2.2.2.2.2 _ _ _ _ h_z_63 g_h0 q; (LkP.xl (fun k_65 q => have g_k_65 := K.2.2.2.2.2 _ _ _ _ h_z_63 g_h0 q; (LkP.xg (LkP.xc (lkp_fn_X0_putLongs K h_z_63 g_k_64 g_k_65) (fun z_66 _ h_z_66 => (lkp_fn_X9_climb_B214 K h_z_66 g_h0 (fun z9 q4 hk_z9 => (hko_ko50 _ _ hk_z9 ))))))))))
theorem lkp_fn_X9_climb_B120 {F : Nat} {sh : Nat → Nat × Nat} {n : Nat} {h0 : Nat} {v_41 : Int64} {p_21 : Int32} {ko50 : St → Int32 → Option (St × Unit)} {z_43 : St} {p_42 : Int32} (K : Kp Q G) (h_z_43 : Q z_43) (g_h0 : G h0) (hko_ko50 : ∀ (w0 : St) (w1 : Int32), Q w0 → LkP Q (ko50 w0 w1)) : LkP Q (fn_X9_climb_B120 F sh n h0 v_41 p_21 ko50 z_43 p_42) := by
  unfold fn_X9_climb_B120
  exact (LkP.xl (fun k_44 q => have g_k_44 := K.2.2.2.2.2 _ _ _ _ h_z_43 g_h0 q; (LkP.xg (LkP.xc (lkp_fn_X0_start K h_z_43 g_k_44) (fun z_45 _ h_z_45 => (LkP.xl (fun k_48 q => have g_k_48 := K.2.2.2.2.2 _ _ _ _ h_z_45 g_h0 q; (LkP.xg (LkP.xc (lkp_fn_X0_put K h_z_45 g_k_48) (fun z_49 _ h_z_49 => (LkP.ite (LkP.xl (fun k_79 q => have g_k_79 := K.2.2.2.2.2 _ _ _ _ h_z_49 g_h0 q; (LkP.xl (fun k_80 q => have g_k_80 := K.2.2.2.2.2 _ _ _ _ h_z_49 g_h0 q; (LkP.xg (LkP.xc (lkp_fn_X0_putLongs K h_z_49 g_k_79 g_k_80) (fun z_81 _ h_z_81 => (LkP.xc (lkp_fn_X9_putNothing K h_z_81 g_h0) (fun z_84 _ h_z_84 => (lkp_fn_X9_climb_B214 K h_z_84 g_h0 (fun z9 q4 hk_z9 => (hko_ko50 _ _ hk_z9 )))))))))))) (LkP.ite (LkP.xc (lkp_fn_X9_putNothing K h_z_49 g_h0) (fun z_70 _ h_z_70 => (lkp_fn_X9_climb_B202 K h_z_70 g_h0 (fun z9 q4 hk_z9 => (hko_ko50 _ _ hk_z9 ))))) (LkP.lts (K.1 _ _ _ _ h_z_49 g_h0) (fun z_73 h_z_73 => (LkP.xl (fun k_74 q => have g_k_74 := K.2.2.2.2.2 _ _ _ _ h_z_73 g_h0 q; (LkP.xl (fun k_75 q => have g_k_75 := K.2.2.2.2.2 _ _ _ _ h_z_73 g_h0 q; (LkP.xg (LkP.xc (lkp_fn_X0_putLongs K h_z_73 g_k_74 g_k_75) (fun z_76 _ h_z_76 => (lkp_fn_X9_climb_B202 K h_z_76 g_h0 (fun z9 q4 hk_z9 => (hko_ko50 _ _ hk_z9 ))))))))))))))))))))))))
theorem lkp_fn_X9_climb_B119 {F : Nat} {sh : Nat → Nat × Nat} {n : Nat} {h0 : Nat} {v_41 : Int64} {p_21 : Int32} {ko50 : St → Int32 → Option (St × Unit)} {z_86 : St} (K : Kp Q G) (h_z_86 : Q z_86) (g_h0 : G h0) (hko_ko50 : ∀ (w0 : St) (w1 : Int32), Q w0 → LkP Q (ko50 w0 w1)) : LkP Q (fn_X9_climb_B119 F sh n h0 v_41 p_21 ko50 z_86) := by
  unfold fn_X9_climb_B119
  exact (lkp_fn_X9_climb_B120 K h_z_86 g_h0 (fun z9 q4 hk_z9 => (hko_ko50 _ _ hk_z9 )))
theorem lkp_fn_X9_climb_L50 {F : Nat} {sh : Nat → Nat × Nat} {n : Nat} {r_6 : Int32} {h0 : Nat} {v_4 : Int32} (K : Kp Q G) (g_h0 : G h0) : ∀ (f : Nat) (v1 : St) (v2 : Int32), Q v1 → LkP Q (fn_X9_climb_L50 F sh n r_6 h0 v_4 f v1 v2) := by
  intro f
  induction f with
  | zero => intros; exact LkP.none
  | succ f_23 ih =>
    intro z_22 p_21 h_z_22
    exact (LkP.ite (LkP.ite (LkP.ret h_z_22) (LkP.xl (fun k_26 q => have g_k_26 := K.2.2.2.2.2 _ _ _ _ h_z_22 g_h0 q; (LkP.xl (fun k_27 q => have g_k_27 := K.2.2.2.2.2 _ _ _ _ h_z_22 g_h0 q; (LkP.xg (LkP.xg (LkP.xg (LkP.lts (K.2.2.2.2.1 _ _ _ _ _ _ h_z_22 g_k_27) (fun z_32 h_z_32 => (LkP.xl (fun k_33 q => have g_k_33 := K.2.2.2.2.2 _ _ _ _ h_z_32 g_h0 q; (LkP.xg (LkP.lts (K.1 _ _ _ _ h_z_32 g_k_33) (fun z_36 h_z_36 => (LkP.lts (K.1 _ _ _ _ h_z_36 g_h0) (fun z_38 h_z_38 => (LkP.ret h_z_38)))))))))))))))))) (LkP.xl (fun k_39 q => have g_k_39 := K.2.2.2.2.2 _ _ _ _ h_z_22 g_h0 q; (LkP.xg (LkP.ltv (fun v_41 => (LkP.ite (lkp_fn_X9_climb_B119 K h_z_22 g_h0 (fun z9 q4 hk_z9 => (ih _ _ hk_z9 ))) (LkP.ite (lkp_fn_X9_climb_B119 K h_z_22 g_h0 (fun z9 q4 hk_z9 => (ih _ _ hk_z9 ))) (LkP.xl (fun k_89 q => have g_k_89 := K.2.2.2.2.2 _ _ _ _ h_z_22 g_h0 q; (LkP.xg (LkP.ite (lkp_fn_X9_climb_B120 K h_z_22 g_h0 (fun z9 q4 hk_z9 => (ih _ _ hk_z9 ))) (lkp_fn_X9_climb_B119 K h_z_22 g_h0 (fun z9 q4 hk_z9 => (ih _ _ hk_z9 )))))))))))))))
theorem lkp_fn_X9_climb {F : Nat} {sh : Nat → Nat × Nat} {n : Nat} {z : St} {h0 : Nat} {x0 : Int32} (K : Kp Q G) (h_z : Q z) (g_h0 : G h0) : LkP Q (fn_X9_climb F sh n z h0 x0) := by
  unfold fn_X9_climb
  exact (LkP.xg (LkP.xl (fun k_2 q => have g_k_2 := K.2.2.2.2.2 _ _ _ _ h_z g_h0 q; (LkP.xg (LkP.ltv (fun v_4 => (LkP.xc (lkp_fn_X9_parting K h_z g_h0) (fun z_5 r_6 h_z_5 => (LkP.xc (lkp_fn_X9_parting K h_z_5 g_h0) (fun z_8 r_9 h_z_8 => (LkP.ltv (fun v_11 => (LkP.xl (fun k_12 q => have g_k_12 := K.2.2.2.2.2 _ _ _ _ h_z_8 g_h0 q; (LkP.xl (fun k_13 q => have g_k_13 := K.2.2.2.2.2 _ _ _ _ h_z_8 g_h0 q; (LkP.xg (LkP.xl (fun k_15 q => have g_k_15 := K.2.2.2.2.2 _ _ _ _ h_z_8 g_h0 q; (LkP.xg (LkP.xg (LkP.xg (LkP.lts (K.2.2.2.2.1 _ _ _ _ _ _ h_z_8 g_k_15) (fun z_20 h_z_20 => (lkp_fn_X9_climb_L50 K g_h0 _ _ _ h_z_20 )))))))))))))))))))))))))
theorem lkp_fn_X14_level_B287 {F : Nat} {sh : Nat → Nat × Nat} {n : Nat} {p_2 : Int32} {p_1 : Int32} {ko4 : St → Int32 → Int32 → Option (St × Unit)} {z_26 : St} {p_25 : Int32} (K : Kp Q G) (h_z_26 : Q z_26) (hko_ko4 : ∀ (w0 : St) (w1 : Int32) (w2 : Int32), Q w0 → LkP Q (ko4 w0 w1 w2)) : LkP Q (fn_X14_level_B287 F sh n p_2 p_1 ko4 z_26 p_25) := by
  unfold fn_X14_level_B287
  exact (LkP.ltv (fun v_27 => (hko_ko4 _ _ _ h_z_26 )))
theorem lkp_fn_X14_level_B257 {F : Nat} {sh : Nat → Nat × Nat} {n : Nat} {h0 : Nat} {p_1 : Int32} {v_13 : Int32} {p_14 : Int32} {p_9 : Int32} {p_2 : Int32} {ko4 : St → Int32 → Int32 → Option (St × Unit)} {z_16 : St} (K : Kp Q G) (h_z_16 : Q z_16) (g_h0 : G h0) (hko_ko4 : ∀ (w0 : St) (w1 : Int32) (w2 : Int32), Q w0 → LkP Q (ko4 w0 w1 w2)) : LkP Q (fn_X14_level_B257 F sh n h0 p_1 v_13 p_14 p_9 p_2 ko4 z_16) := by
  unfold fn_X14_level_B257
  exact (LkP.xl (fun k_17 q => have g_k_17 := K.2.2.2.2.2 _ _ _ _ h_z_16 g_h0 q; (LkP.xg (LkP.lts (K.1 _ _ _ _ h_z_16 g_k_17) (fun z_20 h_z_20 => (LkP.xl (fun k_21 q => have g_k_21 := K.2.2.2.2.2 _ _ _ _ h_z_20 g_h0 q; (LkP.xg (LkP.lts (K.1 _ _ _ _ h_z_20 g_k_21) (fun z_24 h_z_24 => (LkP.ite (lkp_fn_X14_level_B287 K h_z_24 (fun z9 q2 q3 hk_z9 => (hko_ko4 _ _ _ hk_z9 ))) (lkp_fn_X14_level_B287 K h_z_24 (fun z9 q2 q3 hk_z9 => (hko_ko4 _ _ _ hk_z9 ))))))))))))))
theorem lkp_fn_X14_level_L223 {F : Nat} {sh : Nat → Nat × Nat} {n : Nat} {h0 : Nat} {p_1 : Int32} {v_13 : Int32} {p_14 : Int32} {p_9 : Int32} {p_2 : Int32} {ko4 : St → Int32 → Int32 → Option (St × Unit)} (K : Kp Q G) (g_h0 : G h0) (hko_ko4 : ∀ (w0 : St) (w1 : Int32) (w2 : Int32), Q w0 → LkP Q (ko4 w0 w1 w2)) : ∀ (f : Nat) (v1 : St) (v2 : Int32), Q v1 → LkP Q (fn_X14_level_L223 F sh n h0 p_1 v_13 p_14 p_9 p_2 ko4 f v1 v2) := by
  intro f
  induction f with
  | zero => intros; exact LkP.none
  | succ f_32 ih =>
    intro z_31 p_30 h_z_31
    exact (LkP.ite (lkp_fn_X14_level_B257 K h_z_31 g_h0 (fun z9 q2 q3 hk_z9 => (hko_ko4 _ _ _ hk_z9 ))) (LkP.xl (fun k_34 q => have g_k_34 := K.2.2.2.2.2 _ _ _ _ h_z_31 g_h0 q; (LkP.xl (fun k_35 q => have g_k_35 := K.2.2.2.2.2 _ _ _ _ h_z_31 g_h0 q; (LkP.xg (LkP.xg (LkP.lts (K.2.1 _ _ _ _ h_z_31 g_k_34) (fun z_39 h_z_39 => (ih _ _ h_z_39 ))))))))))
theorem lkp_fn_X14_level_B209 {F : Nat} {sh : Nat → Nat × Nat} {n : Nat} {h0 : Nat} {k_55 : Nat} {p_56 : Int32} {p_1 : Int32} {v_13 : Int32} {p_14 : Int32} {p_9 : Int32} {p_2 : Int32} {ko4 : St → Int32 → Int32 → Option (St × Unit)} {z_59 : St} {p_58 : Int32} (K : Kp Q G) (h_z_59 : Q z_59) (g_h0 : G h0) (g_k_55 : G k_55) (hko_ko4 : ∀ (w0 : St) (w1 : Int32) (w2 : Int32), Q w0 → LkP Q (ko4 w0 w1 w2)) : LkP Q (fn_X14_level_B209 F sh n h0 k_55 p_56 p_1 v_13 p_14 p_9 p_2 ko4 z_59 p_58) := by
  unfold fn_X14_level_B209
  exact (LkP.xc (lkp_fn_X14_add K h_z_59 g_h0 g_k_55) (fun z_60 _ h_z_60 => (LkP.xc (lkp_fn_X14_keepHash K h_z_60 g_h0) (fun z_62 _ h_z_62 => (lkp_fn_X14_level_B257 K h_z_62 g_h0 (fun z9 q2 q3 hk_z9 => (hko_ko4 _ _ _ hk_z9 )))))))
theorem lkp_fn_X14_level_B204 {F : Nat} {sh : Nat → Nat × Nat} {n : Nat} {h0 : Nat} {k_55 : Nat} {p_56 : Int32} {p_1 : Int32} {v_13 : Int32} {p_14 : Int32} {p_9 : Int32} {p_2 : Int32} {ko4 : St → Int32 → Int32 → Option (St × Unit)} {z_64 : St} (K : Kp Q G) (h_z_64 : Q z_64) (g_h0 : G h0) (g_k_55 : G k_55) (hko_ko4 : ∀ (w0 : St) (w1 : Int32) (w2 : Int32), Q w0 → LkP Q (ko4 w0 w1 w2)) : LkP Q (fn_X14_level_B204 F sh n h0 k_55 p_56 p_1 v_13 p_14 p_9 p_2 ko4 z_64) := by
  unfold fn_X14_level_B204
  exact (lkp_fn_X14_level_B209 K h_z_64 g_h0 g_k_55 (fun z9 q2 q3 hk_z9 => (hko_ko4 _ _ _ hk_z9 )))
theorem lkp_fn_X14_level_B194 {F : Nat} {sh : Nat → Nat × Nat} {n : Nat} {p_9 : Int32} {p_40 : Int32} {h0 : Nat} {k_55 : Nat} {p_1 : Int32} {v_13 : Int32} {p_14 : Int32} {p_2 : Int32} {ko4 : St → Int32 → Int32 → Option (St × Unit)} {z_57 : St} {p_56 : Int32} (K : Kp Q G) (h_z_57 : Q z_57) (g_h0 : G h0) (g_k_55 : G k_55) (hko_ko4 : ∀ (w0 : St) (w1 : Int32) (w2 : Int32), Q w0 → LkP Q (ko4 w0 w1 w2)) : LkP Q (fn_X14_level_B194 F sh n p_9 p_40 h0 k_55 p_1 v_13 p_14 p_2 ko4 z_57 p_56) := by
  unfold fn_X14_level_B194
  exact (LkP.ite (LkP.ite (lkp_fn_X14_level_B209 K h_z_57 g_h0 g_k_55 (fun z9 q2 q3 hk_z9 => (hko_ko4 _ _ _ hk_z9 ))) (lkp_fn_X14_level_B204 K h_z_57 g_h0 g_k_55 (fun z9 q2 q3 hk_z9 => (hko_ko4 _ _ _ hk_z9 )))) (lkp_fn_X14_level_B204 K h_z_57 g_h0 g_k_55 (fun z9 q2 q3 hk_z9 => (hko_ko4 _ _ _ hk_z9 ))))
theorem lkp_fn_X14_level_B170 {F : Nat} {sh : Nat → Nat × Nat} {n : Nat} {h0 : Nat} {k_50 : Nat} {p_2 : Int32} {p_9 : Int32} {p_40 : Int32} {p_1 : Int32} {v_13 : Int32} {p_14 : Int32} {ko4 : St → Int32 → Int32 → Option (St × Unit)} {z_52 : St} {p_51 : Int32} (K : Kp Q G) (h_z_52 : Q z_52) (g_h0 : G h0) (g_k_50 : G k_50) (hko_ko4 : ∀ (w0 : St) (w1 : Int32) (w2 : Int32), Q w0 → LkP Q (ko4 w0 w1 w2)) : LkP Q (fn_X14_level_B170 F sh n h0 k_50 p_2 p_9 p_40 p_1 v_13 p_14 ko4 z_52 p_51) := by
  unfold fn_X14_level_B170
  exact (LkP.xc (lkp_fn_X14_add K h_z_52 g_h0 g_k_50) (fun z_53 _ h_z_53 => (LkP.xl (fun k_55 q => have g_k_55 := K.2.2.2.2.2 _ _ _ _ h_z_53 g_h0 q; (LkP.ite (lkp_fn_X14_level_B194 K h_z_53 g_h0 g_k_55 (fun z9 q2 q3 hk_z9 => (hko_ko4 _ _ _ hk_z9 ))) (lkp_fn_X14_level_B194 K h_z_53 g_h0 g_k_55 (fun z9 q2 q3 hk_z9 => (hko_ko4 _ _ _ hk_z9 ))))))))
theorem lkp_fn_X14_level_B135 {F : Nat} {sh : Nat → Nat × Nat} {n : Nat} {h0 : Nat} {p_2 : Int32} {p_9 : Int32} {p_1 : Int32} {v_13 : Int32} {p_14 : Int32} {ko4 : St → Int32 → Int32 → Option (St × Unit)} {z_41 : St} {p_40 : Int32} (K : Kp Q G) (h_z_41 : Q z_41) (g_h0 : G h0) (hko_ko4 : ∀ (w0 : St) (w1 : Int32) (w2 : Int32), Q w0 → LkP Q (ko4 w0 w1 w2)) : LkP Q (fn_X14_level_B135 F sh n h0 p_2 p_9 p_1 v_13 p_14 ko4 z_41 p_40) := by
  unfold fn_X14_level_B135
  exact (LkP.xl (fun k_42 q => have g_k_42 := K.2.2.2.2.2 _ _ _ _ h_z_41 g_h0 q; (LkP.xg (LkP.xc (lkp_fn_X12_begin K h_z_41 g_k_42) (fun z_43 _ h_z_43 => (LkP.xl (fun k_46 q => have g_k_46 := K.2.2.2.2.2 _ _ _ _ h_z_43 g_h0 q; (LkP.xg (LkP.xc (lkp_fn_X12_add K h_z_43 g_k_46) (fun z_47 _ h_z_47 => (LkP.xl (fun k_50 q => have g_k_50 := K.2.2.2.2.2 _ _ _ _ h_z_47 g_h0 q; (LkP.ite (lkp_fn_X14_level_B170 K h_z_47 g_h0 g_k_50 (fun z9 q2 q3 hk_z9 => (hko_ko4 _ _ _ hk_z9 ))) (lkp_fn_X14_level_B170 K h_z_47 g_h0 g_k_50 (fun z9 q2 q3 hk_z9 => (hko_ko4 _ _ _ hk_z9 ))))))))))))))))
theorem lkp_fn_X14_level_B134 {F : Nat} {sh : Nat → Nat × Nat} {n : Nat} {h0 : Nat} {p_2 : Int32} {p_9 : Int32} {p_1 : Int32} {v_13 : Int32} {p_14 : Int32} {ko4 : St → Int32 → Int32 → Option (St × Unit)} {z_69 : St} (K : Kp Q G) (h_z_69 : Q z_69) (g_h0 : G h0) (hko_ko4 : ∀ (w0 : St) (w1 : Int32) (w2 : Int32), Q w0 → LkP Q (ko4 w0 w1 w2)) : LkP Q (fn_X14_level_B134 F sh n h0 p_2 p_9 p_1 v_13 p_14 ko4 z_69) := by
  unfold fn_X14_level_B134
  exact (lkp_fn_X14_level_B135 K h_z_69 g_h0 (fun z9 q2 q3 hk_z9 => (hko_ko4 _ _ _ hk_z9 )))
theorem lkp_fn_X14_level_B88 {F : Nat} {sh : Nat → Nat × Nat} {n : Nat} {h0 : Nat} {p_1 : Int32} {v_13 : Int32} {p_9 : Int32} {p_2 : Int32} {x0 : Int32} {ko4 : St → Int32 → Int32 → Option (St × Unit)} {z_15 : St} {p_14 : Int32} (K : Kp Q G) (h_z_15 : Q z_15) (g_h0 : G h0) (hko_ko4 : ∀ (w0 : St) (w1 : Int32) (w2 : Int32), Q w0 → LkP Q (ko4 w0 w1 w2)) : LkP Q (fn_X14_level_B88 F sh n h0 p_1 v_13 p_9 p_2 x0 ko4 z_15 p_14) := by
  unfold fn_X14_level_B88
  exact (LkP.ite (lkp_fn_X14_level_L223 K g_h0 (fun z9 q2 q3 hk_z9 => (hko_ko4 _ _ _ hk_z9 )) _ _ _ h_z_15 ) (LkP.ite (LkP.xl (fun k_71 q => have g_k_71 := K.2.2.2.2.2 _ _ _ _ h_z_15 g_h0 q; (LkP.xg (LkP.ite (lkp_fn_X14_level_B135 K h_z_15 g_h0 (fun z9 q2 q3 hk_z9 => (hko_ko4 _ _ _ hk_z9 ))) (lkp_fn_X14_level_B134 K h_z_15 g_h0 (fun z9 q2 q3 hk_z9 => (hko_ko4 _ _ _ hk_z9 ))))))) (lkp_fn_X14_level_B134 K h_z_15 g_h0 (fun z9 q2 q3 hk_z9 => (hko_ko4 _ _ _ hk_z9 )))))
theorem lkp_fn_X14_level_B49 {F : Nat} {sh : Nat → Nat × Nat} {n : Nat} {h0 : Nat} {p_2 : Int32} {p_1 : Int32} {x0 : Int32} {ko4 : St → Int32 → Int32 → Option (St × Unit)} {z_10 : St} {p_9 : Int32} (K : Kp Q G) (h_z_10 : Q z_10) (g_h0 : G h0) (hko_ko4 : ∀ (w0 : St) (w1 : Int32) (w2 : Int32), Q w0 → LkP Q (ko4 w0 w1 w2)) : LkP Q (fn_X14_level_B49 F sh n h0 p_2 p_1 x0 ko4 z_10 p_9) := by
  unfold fn_X14_level_B49
  exact (LkP.xl (fun k_11 q => have g_k_11 := K.2.2.2.2.2 _ _ _ _ h_z_10 g_h0 q; (LkP.xg (LkP.ltv (fun v_13 => (LkP.ite (LkP.xl (fun k_75 q => have g_k_75 := K.2.2.2.2.2 _ _ _ _ h_z_10 g_h0 q; (LkP.xg (lkp_fn_X14_level_B88 K h_z_10 g_h0 (fun z9 q2 q3 hk_z9 => (hko_ko4 _ _ _ hk_z9 )))))) (LkP.xl (fun k_77 q => have g_k_77 := K.2.2.2.2.2 _ _ _ _ h_z_10 g_h0 q; (LkP.xg (LkP.xl (fun k_79 q => have g_k_79 := K.2.2.2.2.2 _ _ _ _ h_z_10 g_h0 q; (LkP.xg (lkp_fn_X14_level_B88 K h_z_10 g_h0 (fun z9 q2 q3 hk_z9 => (hko_ko4 _ _ _ hk_z9 )))))))))))))))
theorem lkp_fn_X14_level_B48 {F : Nat} {sh : Nat → Nat × Nat} {n : Nat} {h0 : Nat} {p_2 : Int32} {p_1 : Int32} {x0 : Int32} {ko4 : St → Int32 → Int32 → Option (St × Unit)} {z_81 : St} (K : Kp Q G) (h_z_81 : Q z_81) (g_h0 : G h0) (hko_ko4 : ∀ (w0 : St) (w1 : Int32) (w2 : Int32), Q w0 → LkP Q (ko4 w0 w1 w2)) : LkP Q (fn_X14_level_B48 F sh n h0 p_2 p_1 x0 ko4 z_81) := by
  unfold fn_X14_level_B48
  exact (lkp_fn_X14_level_B49 K h_z_81 g_h0 (fun z9 q2 q3 hk_z9 => (hko_ko4 _ _ _ hk_z9 )))
theorem lkp_fn_X14_level_L4 {F : Nat} {sh : Nat → Nat × Nat} {n : Nat} {h0 : Nat} {x0 : Int32} (K : Kp Q G) (g_h0 : G h0) : ∀ (f : Nat) (v1 : St) (v2 : Int32) (v3 : Int32), Q v1 → LkP Q (fn_X14_level_L4 F sh n h0 x0 f v1 v2 v3) := by
  intro f
  induction f with
  | zero => intros; exact LkP.none
  | succ f_4 ih =>
    intro z_3 p_1 p_2 h_z_3
    exact (LkP.xg (LkP.ite (LkP.lts (K.1 _ _ _ _ h_z_3 g_h0) (fun z_8 h_z_8 => (LkP.ret h_z_8))) (LkP.ite (lkp_fn_X14_level_B48 K h_z_3 g_h0 (fun z9 q2 q3 hk_z9 => (ih _ _ _ hk_z9 ))) (LkP.xl (fun k_83 q => have g_k_83 := K.2.2.2.2.2 _ _ _ _ h_z_3 g_h0 q; (LkP.xg (LkP.xl (fun k_85 q => have g_k_85 := K.2.2.2.2.2 _ _ _ _ h_z_3 g_h0 q; (LkP.xg (LkP.xc (lkp_fn_X14_agree K h_z_3 g_h0) (fun z_87 r_88 h_z_87 => (LkP.ite (lkp_fn_X14_level_B48 K h_z_87 g_h0 (fun z9 q2 q3 hk_z9 => (ih _ _ _ hk_z9 ))) (lkp_fn_X14_level_B49 K h_z_87 g_h0 (fun z9 q2 q3 hk_z9 => (ih _ _ _ hk_z9 )))))))))))))))
theorem lkp_fn_X14_level {F : Nat} {sh : Nat → Nat × Nat} {n : Nat} {z : St} {h0 : Nat} {x0 : Int32} (K : Kp Q G) (h_z : Q z) (g_h0 : G h0) : LkP Q (fn_X14_level F sh n z h0 x0) := by
  unfold fn_X14_level
  exact (lkp_fn_X14_level_L4 K g_h0 _ _ _ _ h_z )
theorem lkp_fn_X13_onLocal_B354 {F : Nat} {sh : Nat → Nat × Nat} {n : Nat} {v_4 : Int64} {h0 : Nat} {x1 : Int32} {z_29 : St} {p_28 : Int32} (K : Kp Q G) (h_z_29 : Q z_29) (g_h0 : G h0) : LkP Q (fn_X13_onLocal_B354 F sh n v_4 h0 x1 z_29 p_28) := by
  unfold fn_X13_onLocal_B354
  exact (LkP.xc (lkp_fn_X13_before K h_z_29) (fun z_30 r_31 h_z_30 => (LkP.xc (lkp_fn_X13_push K h_z_30 g_h0) (fun z_33 _ h_z_33 => (LkP.ret h_z_33)))))
theorem lkp_fn_X13_onLocal_B335 {F : Nat} {sh : Nat → Nat × Nat} {n : Nat} {h0 : Nat} {x0 : Int32} {v_4 : Int64} {x1 : Int32} {z_25 : St} {p_24 : Int32} (K : Kp Q G) (h_z_25 : Q z_25) (g_h0 : G h0) : LkP Q (fn_X13_onLocal_B335 F sh n h0 x0 v_4 x1 z_25 p_24) := by
  unfold fn_X13_onLocal_B335
  exact (LkP.xc (lkp_fn_X13_need K h_z_25 g_h0) (fun z_26 _ h_z_26 => (LkP.ite (lkp_fn_X13_onLocal_B354 K h_z_26 g_h0) (lkp_fn_X13_onLocal_B354 K h_z_26 g_h0))))
theorem lkp_fn_X13_onLocal_B324 {F : Nat} {sh : Nat → Nat × Nat} {n : Nat} {h0 : Nat} {x1 : Int32} {x0 : Int32} {v_4 : Int64} {z_20 : St} {p_19 : Int32} (K : Kp Q G) (h_z_20 : Q z_20) (g_h0 : G h0) : LkP Q (fn_X13_onLocal_B324 F sh n h0 x1 x0 v_4 z_20 p_19) := by
  unfold fn_X13_onLocal_B324
  exact (LkP.xc (lkp_fn_X13_isPointed K h_z_20 g_h0) (fun z_21 r_22 h_z_21 => (LkP.ite (lkp_fn_X13_onLocal_B335 K h_z_21 g_h0) (lkp_fn_X13_onLocal_B335 K h_z_21 g_h0))))
theorem lkp_fn_X13_onLocal_B249 {F : Nat} {sh : Nat → Nat × Nat} {n : Nat} {h0 : Nat} {x1 : Int32} {v_4 : Int64} {z_39 : St} {p_38 : Int32} (K : Kp Q G) (h_z_39 : Q z_39) (g_h0 : G h0) : LkP Q (fn_X13_onLocal_B249 F sh n h0 x1 v_4 z_39 p_38) := by
  unfold fn_X13_onLocal_B249
  exact (LkP.xc (lkp_fn_X13_need K h_z_39 g_h0) (fun z_40 _ h_z_40 => (LkP.xl (fun k_42 q => have g_k_42 := K.2.2.2.2.2 _ _ _ _ h_z_40 g_h0 q; (LkP.xg (LkP.xl (fun k_44 q => have g_k_44 := K.2.2.2.2.2 _ _ _ _ h_z_40 g_h0 q; (LkP.xg (LkP.xc (lkp_fn_X13_push K h_z_40 g_h0) (fun z_46 _ h_z_46 => (LkP.ite (LkP.xl (fun k_49 q => have g_k_49 := K.2.2.2.2.2 _ _ _ _ h_z_46 g_h0 q; (LkP.xg (LkP.lts (K.1 _ _ _ _ h_z_46 g_k_49) (fun z_52 h_z_52 => (LkP.xl (fun k_53 q => have g_k_53 := K.2.2.2.2.2 _ _ _ _ h_z_52 g_h0 q; (LkP.xg (LkP.lts (K.2.1 _ _ _ _ h_z_52 g_k_53) (fun z_56 h_z_56 => (LkP.xl (fun k_57 q => have g_k_57 := K.2.2.2.2.2 _ _ _ _ h_z_56 g_h0 q; (LkP.xg (LkP.lts (K.1 _ _ _ _ h_z_56 g_k_57) (fun z_60 h_z_60 => (LkP.ret h_z_60)))))))))))))))) (LkP.ret h_z_46))))))))))))
theorem lkp_fn_X13_onLocal_B244 {F : Nat} {sh : Nat → Nat × Nat} {n : Nat} {h0 : Nat} {x1 : Int32} {v_4 : Int64} {z_61 : St} (K : Kp Q G) (h_z_61 : Q z_61) (g_h0 : G h0) : LkP Q (fn_X13_onLocal_B244 F sh n h0 x1 v_4 z_61) := by
  unfold fn_X13_onLocal_B244
  exact (lkp_fn_X13_onLocal_B249 K h_z_61 g_h0)
theorem lkp_fn_X13_onLocal_B198 {F : Nat} {sh : Nat → Nat × Nat} {n : Nat} {h0 : Nat} {x1 : Int32} {v_4 : Int64} {z_73 : St} {p_72 : Int32} (K : Kp Q G) (h_z_73 : Q z_73) (g_h0 : G h0) : LkP Q (fn_X13_onLocal_B198 F sh n h0 x1 v_4 z_73 p_72) := by
  unfold fn_X13_onLocal_B198
  exact (LkP.xc (lkp_fn_X13_need K h_z_73 g_h0) (fun z_74 _ h_z_74 => (LkP.xl (fun k_76 q => have g_k_76 := K.2.2.2.2.2 _ _ _ _ h_z_74 g_h0 q; (LkP.xg (LkP.xl (fun k_78 q => have g_k_78 := K.2.2.2.2.2 _ _ _ _ h_z_74 g_h0 q; (LkP.xg (LkP.xc (lkp_fn_X13_push K h_z_74 g_h0) (fun z_80 _ h_z_80 => (LkP.ret h_z_80)))))))))))
theorem lkp_fn_X13_onLocal_B193 {F : Nat} {sh : Nat → Nat × Nat} {n : Nat} {h0 : Nat} {x1 : Int32} {v_4 : Int64} {z_82 : St} (K : Kp Q G) (h_z_82 : Q z_82) (g_h0 : G h0) : LkP Q (fn_X13_onLocal_B193 F sh n h0 x1 v_4 z_82) := by
  unfold fn_X13_onLocal_B193
  exact (lkp_fn_X13_onLocal_B198 K h_z_82 g_h0)
theorem lkp_fn_X13_onLocal_B125 {F : Nat} {sh : Nat → Nat × Nat} {n : Nat} {k_105 : Nat} {x1 : Int32} {h0 : Nat} {p_8 : Int32} {z_107 : St} {p_106 : Int64} (K : Kp Q G) (h_z_107 : Q z_107) (g_k_105 : G k_105) (g_h0 : G h0) : LkP Q (fn_X13_onLocal_B125 F sh n k_105 x1 h0 p_8 z_107 p_106) := by
  unfold fn_X13_onLocal_B125
  exact (LkP.xg (LkP.lts (K.2.1 _ _ _ _ h_z_107 g_k_105) (fun z_110 h_z_110 => (LkP.xl (fun k_111 q => have g_k_111 := K.2.2.2.2.2 _ _ _ _ h_z_110 g_h0 q; (LkP.ite (LkP.ite (LkP.xg (LkP.lts (K.1 _ _ _ _ h_z_110 g_k_111) (fun z_119 h_z_119 => (LkP.ret h_z_119)))) (LkP.xg (LkP.lts (K.1 _ _ _ _ h_z_110 g_k_111) (fun z_122 h_z_122 => (LkP.ret h_z_122))))) (LkP.xg (LkP.lts (K.1 _ _ _ _ h_z_110 g_k_111) (fun z_115 h_z_115 => (LkP.ret h_z_115))))))))))
theorem lkp_fn_X13_onLocal_B87 {F : Nat} {sh : Nat → Nat × Nat} {n : Nat} {h0 : Nat} {x1 : Int32} {p_8 : Int32} {z_97 : St} {p_96 : Int32} (K : Kp Q G) (h_z_97 : Q z_97) (g_h0 : G h0) : LkP Q (fn_X13_onLocal_B87 F sh n h0 x1 p_8 z_97 p_96) := by
  unfold fn_X13_onLocal_B87
  exact (LkP.xc (lkp_fn_X13_need K h_z_97 g_h0) (fun z_98 _ h_z_98 => (LkP.ite (LkP.xl (fun k_101 q => have g_k_101 := K.2.2.2.2.2 _ _ _ _ h_z_98 g_h0 q; (LkP.xg (LkP.lts (K.1 _ _ _ _ h_z_98 g_k_101) (fun z_104 h_z_104 => (LkP.xl (fun k_105 q => have g_k_105 := K.2.2.2.2.2 _ _ _ _ h_z_104 g_h0 q; (LkP.ite (lkp_fn_X13_onLocal_B125 K h_z_104 g_k_105 g_h0) (lkp_fn_X13_onLocal_B125 K h_z_104 g_k_105 g_h0))))))))) (LkP.ret h_z_98))))
theorem lkp_fn_X13_onLocal_B82 {F : Nat} {sh : Nat → Nat × Nat} {n : Nat} {h0 : Nat} {x1 : Int32} {p_8 : Int32} {z_124 : St} (K : Kp Q G) (h_z_124 : Q z_124) (g_h0 : G h0) : LkP Q (fn_X13_onLocal_B82 F sh n h0 x1 p_8 z_124) := by
  unfold fn_X13_onLocal_B82
  exact (lkp_fn_X13_onLocal_B87 K h_z_124 g_h0)
theorem lkp_fn_X13_onLocal_B56 {F : Nat} {sh : Nat → Nat × Nat} {n : Nat} {h0 : Nat} {p_8 : Int32} {x1 : Int32} {z_93 : St} {p_92 : Int32} (K : Kp Q G) (h_z_93 : Q z_93) (g_h0 : G h0) : LkP Q (fn_X13_onLocal_B56 F sh n h0 p_8 x1 z_93 p_92) := by
  unfold fn_X13_onLocal_B56
  exact (LkP.xc (lkp_fn_X13_need K h_z_93 g_h0) (fun z_94 _ h_z_94 => (LkP.ite (lkp_fn_X13_onLocal_B82 K h_z_94 g_h0) (LkP.ite (LkP.xc (lkp_fn_X13_isPointed K h_z_94 g_h0) (fun z_127 r_128 h_z_127 => (LkP.ite (lkp_fn_X13_onLocal_B82 K h_z_127 g_h0) (lkp_fn_X13_onLocal_B87 K h_z_127 g_h0)))) (lkp_fn_X13_onLocal_B82 K h_z_94 g_h0)))))
theorem lkp_fn_X13_onLocal_B51 {F : Nat} {sh : Nat → Nat × Nat} {n : Nat} {h0 : Nat} {p_8 : Int32} {x1 : Int32} {z_131 : St} (K : Kp Q G) (h_z_131 : Q z_131) (g_h0 : G h0) : LkP Q (fn_X13_onLocal_B51 F sh n h0 p_8 x1 z_131) := by
  unfold fn_X13_onLocal_B51
  exact (lkp_fn_X13_onLocal_B56 K h_z_131 g_h0)
theorem lkp_fn_X13_onLocal_B19 {F : Nat} {sh : Nat → Nat × Nat} {n : Nat} {x0 : Int32} {h0 : Nat} {v_4 : Int64} {x1 : Int32} {z_9 : St} {p_8 : Int32} (K : Kp Q G) (h_z_9 : Q z_9) (g_h0 : G h0) : LkP Q (fn_X13_onLocal_B19 F sh n x0 h0 v_4 x1 z_9 p_8) := by
  unfold fn_X13_onLocal_B19
  exact (LkP.ite (LkP.xc (lkp_fn_X13_take_ K h_z_9 g_h0) (fun z_88 _ h_z_88 => (LkP.xl (fun k_90 q => have g_k_90 := K.2.2.2.2.2 _ _ _ _ h_z_88 g_h0 q; (LkP.xg (LkP.ite (lkp_fn_X13_onLocal_B51 K h_z_88 g_h0) (LkP.xc (lkp_fn_X13_has K h_z_88 g_h0) (fun z_133 r_134 h_z_133 => (LkP.ite (lkp_fn_X13_onLocal_B56 K h_z_133 g_h0) (lkp_fn_X13_onLocal_B51 K h_z_133 g_h0)))))))))) (LkP.xl (fun k_11 q => have g_k_11 := K.2.2.2.2.2 _ _ _ _ h_z_9 g_h0 q; (LkP.xg (LkP.xc (lkp_fn_X13_need K h_z_9 g_h0) (fun z_13 _ h_z_13 => (LkP.ite (LkP.xc (lkp_fn_X13_has K h_z_13 g_h0) (fun z_67 r_68 h_z_67 => (LkP.xc (lkp_fn_X13_need K h_z_67 g_h0) (fun z_70 _ h_z_70 => (LkP.ite (lkp_fn_X13_onLocal_B193 K h_z_70 g_h0) (LkP.xc (lkp_fn_X13_isPointed K h_z_70 g_h0) (fun z_84 r_85 h_z_84 => (LkP.ite (lkp_fn_X13_onLocal_B193 K h_z_84 g_h0) (lkp_fn_X13_onLocal_B198 K h_z_84 g_h0))))))))) (LkP.ite (LkP.ite (lkp_fn_X13_onLocal_B244 K h_z_13 g_h0) (LkP.xc (lkp_fn_X13_isPointed K h_z_13 g_h0) (fun z_63 r_64 h_z_63 => (LkP.ite (lkp_fn_X13_onLocal_B244 K h_z_63 g_h0) (lkp_fn_X13_onLocal_B249 K h_z_63 g_h0))))) (LkP.xc (lkp_fn_X13_need K h_z_13 g_h0) (fun z_17 _ h_z_17 => (LkP.ite (lkp_fn_X13_onLocal_B324 K h_z_17 g_h0) (lkp_fn_X13_onLocal_B324 K h_z_17 g_h0))))))))))))
theorem lkp_fn_X13_onLocal {F : Nat} {sh : Nat → Nat × Nat} {n : Nat} {z : St} {h0 : Nat} {x0 : Int32} {x1 : Int32} (K : Kp Q G) (h_z : Q z) (g_h0 : G h0) : LkP Q (fn_X13_onLocal F sh n z h0 x0 x1) := by
  unfold fn_X13_onLocal
  exact (LkP.xg (LkP.xl (fun k_2 q => have g_k_2 := K.2.2.2.2.2 _ _ _ _ h_z g_h0 q; (LkP.xg (LkP.ltv (fun v_4 => (LkP.xc (lkp_fn_X13_isReference K h_z) (fun z_5 r_6 h_z_5 => (LkP.ite (lkp_fn_X13_onLocal_B19 K h_z_5 g_h0) (lkp_fn_X13_onLocal_B19 K h_z_5 g_h0))))))))))
theorem lkp_fn_X18_reckon_B397 {F : Nat} {sh : Nat → Nat × Nat} {n : Nat} {h0 : Nat} {z_48 : St} {p_47 : Int32} (K : Kp Q G) (h_z_48 : Q z_48) (g_h0 : G h0) : LkP Q (fn_X18_reckon_B397 F sh n h0 z_48 p_47) := by
  unfold fn_X18_reckon_B397
  exact (LkP.ite (LkP.xc (lkp_fn_X18_make K h_z_48 g_h0) (fun z_50 _ h_z_50 => (LkP.ret h_z_50))) (LkP.xc (lkp_fn_X18_make K h_z_48 g_h0) (fun z_52 _ h_z_52 => (LkP.ret h_z_52))))
theorem lkp_fn_X18_reckon_B303 {F : Nat} {sh : Nat → Nat × Nat} {n : Nat} {r_77 : Int32} {h0 : Nat} {z_81 : St} {p_80 : Int32} (K : Kp Q G) (h_z_81 : Q z_81) (g_h0 : G h0) : LkP Q (fn_X18_reckon_B303 F sh n r_77 h0 z_81 p_80) := by
  unfold fn_X18_reckon_B303
  exact (LkP.ite (LkP.xc (lkp_fn_X18_make K h_z_81 g_h0) (fun z_85 _ h_z_85 => (LkP.ret h_z_85))) (LkP.xc (lkp_fn_X18_make K h_z_81 g_h0) (fun z_83 _ h_z_83 => (LkP.ret h_z_83))))
theorem lkp_fn_X18_reckon_B211 {F : Nat} {sh : Nat → Nat × Nat} {n : Nat} {x0 : Int32} {h0 : Nat} {v_20 : Int32} {v_30 : Int64} {v_40 : Int64} {z_89 : St} {p_88 : Int64} (K : Kp Q G) (h_z_89 : Q z_89) (g_h0 : G h0) : LkP Q (fn_X18_reckon_B211 F sh n x0 h0 v_20 v_30 v_40 z_89 p_88) := by
  unfold fn_X18_reckon_B211
  exact (LkP.ite (LkP.xc (lkp_fn_X18_make K h_z_89 g_h0) (fun z_96 _ h_z_96 => (LkP.ret h_z_96))) (LkP.ite (LkP.xc (lkp_fn_X18_make K h_z_89 g_h0) (fun z_94 _ h_z_94 => (LkP.ret h_z_94))) (LkP.xc (lkp_fn_X18_make K h_z_89 g_h0) (fun z_92 _ h_z_92 => (LkP.ret h_z_92)))))
theorem lkp_fn_X18_reckon_B44 {F : Nat} {sh : Nat → Nat × Nat} {n : Nat} {h0 : Nat} {r_6 : Int32} {r_2 : Int32} {x0 : Int32} {z_11 : St} (K : Kp Q G) (h_z_11 : Q z_11) (g_h0 : G h0) : LkP Q (fn_X18_reckon_B44 F sh n h0 r_6 r_2 x0 z_11) := by
  unfold fn_X18_reckon_B44
  exact (LkP.xc (lkp_fn_X18_goesOn K h_z_11 g_h0) (fun z_12 r_13 h_z_12 => (LkP.ite (LkP.ret h_z_12) (LkP.xl (fun k_16 q => have g_k_16 := K.2.2.2.2.2 _ _ _ _ h_z_12 g_h0 q; (LkP.xg (LkP.xl (fun k_18 q => have g_k_18 := K.2.2.2.2.2 _ _ _ _ h_z_12 g_k_16 q; (LkP.xg (LkP.ltv (fun v_20 => (LkP.xl (fun k_21 q => have g_k_21 := K.2.2.2.2.2 _ _ _ _ h_z_12 g_h0 q; (LkP.xg (LkP.xl (fun k_23 q => have g_k_23 := K.2.2.2.2.2 _ _ _ _ h_z_12 g_k_21 q; (LkP.xg (LkP.ltv (fun v_25 => (LkP.xl (fun k_26 q => have g_k_26 := K.2.2.2.2.2 _ _ _ _ h_z_12 g_h0 q; (LkP.xg (LkP.xl (fun k_28 q => have g_k_28 := K.2.2.2.2.2 _ _ _ _ h_z_12 g_k_26 q; (LkP.xg (LkP.ltv (fun v_30 => (LkP.xl (fun k_31 q => have g_k_31 := K.2.2.2.2.2 _ _ _ _ h_z_12 g_h0 q; (LkP.xg (LkP.xl (fun k_33 q => have g_k_33 := K.2.2.2.2.2 _ _ _ _ h_z_12 g_k_31 q; (LkP.xg (LkP.ltv (fun v_35 => (LkP.xl (fun k_36 q => have g_k_36 := K.2.2.2.2.2 _ _ _ _ h_z_12 g_h0 q; (LkP.xg (LkP.xl (fun k_38 q => have g_k_38 := K.2.2.2.2.2 _ _ _ _ h_z_12 g_k_36 q; (LkP.xg (LkP.ltv (fun v_40 => (LkP.ite (LkP.ite (LkP.ite (LkP.xc (lkp_fn_X17_compare K h_z_12) (fun z_44 r_45 h_z_44 => (LkP.ite (LkP.ite (lkp_fn_X18_reckon_B397 K h_z_44 g_h0) (lkp_fn_X18_reckon_B397 K h_z_44 g_h0)) (LkP.ite (LkP.ite (lkp_fn_X18_reckon_B397 K h_z_44 g_h0) (lkp_fn_X18_reckon_B397 K h_z_44 g_h0)) (LkP.ite (LkP.ite (lkp_fn_X18_reckon_B397 K h_z_44 g_h0) (lkp_fn_X18_reckon_B397 K h_z_44 g_h0)) (LkP.ite (lkp_fn_X18_reckon_B397 K h_z_44 g_h0) (lkp_fn_X18_reckon_B397 K h_z_44 g_h0))))))) (LkP.xl (fun k_61 q => have g_k_61 := K.2.2.2.2.2 _ _ _ _ h_z_12 g_h0 q; (LkP.xg (LkP.xc (lkp_fn_X15_sizeOf K  _ _ _ _ h_z_12 g_k_61) (fun z_62 r_63 h_z_62 => (LkP.xl (fun k_66 q => have g_k_66 := K.2.2.2.2.2 _ _ _ _ h_z_62 g_h0 q; (LkP.xg (LkP.xc (lkp_fn_X15_sizeOf K  _ _ _ _ h_z_62 g_k_66) (fun z_67 r_68 h_z_67 => (LkP.xc (lkp_fn_X18_spend K h_z_67 g_h0) (fun z_71 r_72 h_z_71 => (LkP.ite (LkP.ret h_z_71) (LkP.xl (fun k_75 q => have g_k_75 := K.2.2.2.2.2 _ _ _ _ h_z_71 g_h0 q; (LkP.xg (LkP.xc (lkp_fn_X15_isAlike K  _ _ _ _ _ h_z_71 g_k_75) (fun z_76 r_77 h_z_76 => (LkP.ite (lkp_fn_X18_reckon_B303 K h_z_76 g_h0) (lkp_fn_X18_reckon_B303 K h_z_76 g_h0))))))))))))))))))))) (LkP.ite (lkp_fn_X18_reckon_B211 K h_z_12 g_h0) (LkP.ite (lkp_fn_X18_reckon_B211 K h_z_12 g_h0) (lkp_fn_X18_reckon_B211 K h_z_12 g_h0)))) (LkP.xl (fun k_100 q => have g_k_100 := K.2.2.2.2.2 _ _ _ _ h_z_12 g_h0 q; (LkP.xc (lkp_fn_X18_bitsOf K h_z_12) (fun z_101 r_102 h_z_101 => (LkP.xg (LkP.xc (lkp_fn_X17_reckon K h_z_101 g_k_100) (fun z_104 r_105 h_z_104 => (LkP.ite (LkP.xc (lkp_fn_X18_end K h_z_104 g_h0) (fun z_109 _ h_z_109 => (LkP.ret h_z_109))) (LkP.xl (fun k_111 q => have g_k_111 := K.2.2.2.2.2 _ _ _ _ h_z_104 g_h0 q; (LkP.xg (LkP.xl (fun k_113 q => have g_k_113 := K.2.2.2.2.2 _ _ _ _ h_z_104 g_h0 q; (LkP.xg (LkP.xc (lkp_fn_X18_make K h_z_104 g_h0) (fun z_115 _ h_z_115 => (LkP.ret h_z_115)))))))))))))))))))))))))))))))))))))))))))))))))))))))))))))
theorem lkp_fn_X18_reckon {F : Nat} {sh : Nat → Nat × Nat} {n : Nat} {z : St} {h0 : Nat} {x0 : Int32} (K : Kp Q G) (h_z : Q z) (g_h0 : G h0) : LkP Q (fn_X18_reckon F sh n z h0 x0) := by
  unfold fn_X18_reckon
  exact (LkP.xg (LkP.xc (lkp_fn_X18_takeAny K h_z g_h0) (fun z_1 r_2 h_z_1 => (LkP.xc (lkp_fn_X18_takeAny K h_z_1 g_h0) (fun z_5 r_6 h_z_5 => (LkP.xc (lkp_fn_X18_goesOn K h_z_5 g_h0) (fun z_8 r_9 h_z_8 => (LkP.ite (lkp_fn_X18_reckon_B44 K h_z_8 g_h0) (LkP.xl (fun k_118 q => have g_k_118 := K.2.2.2.2.2 _ _ _ _ h_z_8 g_h0 q; (LkP.xg (LkP.xl (fun k_120 q => have g_k_120 := K.2.2.2.2.2 _ _ _ _ h_z_8 g_k_118 q; (LkP.xg (LkP.xl (fun k_122 q => have g_k_122 := K.2.2.2.2.2 _ _ _ _ h_z_8 g_h0 q; (LkP.xg (LkP.xl (fun k_124 q => have g_k_124 := K.2.2.2.2.2 _ _ _ _ h_z_8 g_k_122 q; (LkP.xg (LkP.ite (lkp_fn_X18_reckon_B44 K h_z_8 g_h0) (LkP.xc (lkp_fn_X18_slip K h_z_8 g_h0) (fun z_127 _ h_z_127 => (lkp_fn_X18_reckon_B44 K h_z_127 g_h0))))))))))))))))))))))))
theorem lkp_fn_X16_many {F : Nat} {sh : Nat → Nat × Nat} {n : Nat} {z : St} {h0 : Nat} {x0 : Int32} {x1 : Int32} (K : Kp Q G) (h_z : Q z) (g_h0 : G h0) : LkP Q (fn_X16_many F sh n z h0 x0 x1) := by
  unfold fn_X16_many
  exact (LkP.xg (LkP.ite (LkP.xc (lkp_fn_X16_listOf K h_z g_h0) (fun z_3 r_4 h_z_3 => (LkP.xc (lkp_fn_X16_byteAt K h_z_3 g_h0) (fun z_6 r_7 h_z_6 => (LkP.ret h_z_6))))) (LkP.ite (LkP.ret h_z) (LkP.xc (lkp_fn_X16_listOf K h_z g_h0) (fun z_10 r_11 h_z_10 => (LkP.xc (lkp_fn_X16_byteAt K h_z_10 g_h0) (fun z_13 r_14 h_z_13 => (LkP.ret h_z_13))))))))
theorem lkp_fn_X16_listed_L13 {F : Nat} {sh : Nat → Nat × Nat} {n : Nat} {x2 : Int32} {h0 : Nat} (K : Kp Q G) (g_h0 : G h0) : ∀ (f : Nat) (v1 : St) (v2 : Int32) (v3 : Int32), Q v1 → LkP Q (fn_X16_listed_L13 F sh n x2 h0 f v1 v2 v3) := by
  intro f
  induction f with
  | zero => intros; exact LkP.none
  | succ f_9 ih =>
    intro z_8 p_6 p_7 h_z_8
    exact (LkP.ite (LkP.xc (lkp_fn_X16_typeAt K h_z_8 g_h0) (fun z_11 r_12 h_z_11 => (LkP.ret h_z_11))) (LkP.xc (lkp_fn_X16_typeEnd K h_z_8 g_h0) (fun z_14 r_15 h_z_14 => (ih _ _ _ h_z_14 ))))
theorem lkp_fn_X16_listed {F : Nat} {sh : Nat → Nat × Nat} {n : Nat} {z : St} {h0 : Nat} {x0 : Int32} {x1 : Int32} {x2 : Int32} (K : Kp Q G) (h_z : Q z) (g_h0 : G h0) : LkP Q (fn_X16_listed F sh n z h0 x0 x1 x2) := by
  unfold fn_X16_listed
  exact (LkP.xg (LkP.xc (lkp_fn_X16_listOf K h_z g_h0) (fun z_1 r_2 h_z_1 => (LkP.ltv (fun v_5 => (lkp_fn_X16_listed_L13 K g_h0 _ _ _ _ h_z_1 ))))))
theorem lkp_fn_X18_isSame {F : Nat} {sh : Nat → Nat × Nat} {n : Nat} {z : St} {h0 : Nat} {x0 : Nat} {x1 : Int64} {x2 : Int32} {x3 : Int64} (K : Kp Q G) (h_z : Q z) (g_h0 : G h0) (g_x0 : G x0) : LkP Q (fn_X18_isSame F sh n z h0 x0 x1 x2 x3) := by
  unfold fn_X18_isSame
  exact (LkP.xc (lkp_fn_X18_endsInStructure K h_z) (fun z_1 r_2 h_z_1 => (LkP.xc (lkp_fn_X18_endsInStructure K h_z_1) (fun z_4 r_5 h_z_4 => (LkP.ite (LkP.xc (lkp_fn_X18_endsInStructure K h_z_4) (fun z_8 r_9 h_z_8 => (LkP.ite (LkP.ite (LkP.ret h_z_8) (LkP.ret h_z_8)) (LkP.ite (LkP.xg (LkP.xc (lkp_fn_X16_identity K h_z_8 g_x0) (fun z_13 r_14 h_z_13 => (LkP.xg (LkP.xc (lkp_fn_X18_identityThere K h_z_13 g_h0) (fun z_17 r_18 h_z_17 => (LkP.ite (LkP.ret h_z_17) (LkP.ret h_z_17)))))))) (LkP.ret h_z_8))))) (LkP.ret h_z_4))))))
theorem lkp_fn_X9_gatherAccounts_L2 {F : Nat} {sh : Nat → Nat × Nat} {n : Nat} {x0 : Nat} {h0 : Nat} (K : Kp Q G) (g_x0 : G x0) (g_h0 : G h0) : ∀ (f : Nat) (v1 : St) (v2 : Int32), Q v1 → LkP Q (fn_X9_gatherAccounts_L2 F sh n x0 h0 f v1 v2) := by
  intro f
  induction f with
  | zero => intros; exact LkP.none
  | succ f_3 ih =>
    intro z_2 p_1 h_z_2
    exact (LkP.xg (LkP.ite (LkP.ret h_z_2) (LkP.xg (LkP.xl (fun k_7 q => have g_k_7 := K.2.2.2.2.2 _ _ _ _ h_z_2 g_h0 q; (LkP.xg (LkP.xc (lkp_fn_X0_start K h_z_2 g_k_7) (fun z_8 _ h_z_8 => (LkP.xl (fun k_11 q => have g_k_11 := K.2.2.2.2.2 _ _ _ _ h_z_8 g_h0 q; (LkP.xl (fun k_12 q => have g_k_12 := K.2.2.2.2.2 _ _ _ _ h_z_8 g_x0 q; (LkP.xg (LkP.xg (LkP.xc (lkp_fn_X0_putLong K h_z_8 g_k_11) (fun z_14 _ h_z_14 => (LkP.xl (fun k_17 q => have g_k_17 := K.2.2.2.2.2 _ _ _ _ h_z_14 g_h0 q; (LkP.xl (fun k_18 q => have g_k_18 := K.2.2.2.2.2 _ _ _ _ h_z_14 g_x0 q; (LkP.xg (LkP.xg (LkP.xc (lkp_fn_X0_putLong K h_z_14 g_k_17) (fun z_20 _ h_z_20 => (LkP.xc (lkp_fn_X9_keepValue K h_z_20 g_h0) (fun z_23 _ h_z_23 => (LkP.xl (fun k_25 q => have g_k_25 := K.2.2.2.2.2 _ _ _ _ h_z_23 g_h0 q; (LkP.xg (LkP.xc (lkp_fn_X0_start K h_z_23 g_k_25) (fun z_26 _ h_z_26 => (LkP.xl (fun k_29 q => have g_k_29 := K.2.2.2.2.2 _ _ _ _ h_z_26 g_h0 q; (LkP.xg (LkP.xc (lkp_fn_X0_put K h_z_26 g_k_29) (fun z_30 _ h_z_30 => (LkP.xl (fun k_33 q => have g_k_33 := K.2.2.2.2.2 _ _ _ _ h_z_30 g_h0 q; (LkP.xl (fun k_34 q => have g_k_34 := K.2.2.2.2.2 _ _ _ _ h_z_30 g_x0 q; (LkP.xg (LkP.xg (LkP.xc (lkp_fn_X0_putLong K h_z_30 g_k_33) (fun z_36 _ h_z_36 => (LkP.xl (fun k_39 q => have g_k_39 := K.2.2.2.2.2 _ _ _ _ h_z_36 g_x0 q; (LkP.xg (LkP.xc (lkp_fn_X9_addPlace K h_z_36 g_h0) (fun z_41 _ h_z_41 => (ih _ _ h_z_41 ))))))))))))))))))))))))))))))))))))))))))))))))))
theorem lkp_fn_X9_gatherAccounts {F : Nat} {sh : Nat → Nat × Nat} {n : Nat} {z : St} {h0 : Nat} {x0 : Nat} (K : Kp Q G) (h_z : Q z) (g_h0 : G h0) (g_x0 : G x0) : LkP Q (fn_X9_gatherAccounts F sh n z h0 x0) := by
  unfold fn_X9_gatherAccounts
  exact (lkp_fn_X9_gatherAccounts_L2 K g_x0 g_h0 _ _ _ h_z )
theorem lkp_fn_X9_gatherModules_L27 {F : Nat} {sh : Nat → Nat × Nat} {n : Nat} {k_8 : Nat} {h0 : Nat} {p_1 : Int32} {ko2 : St → Int32 → Option (St × Unit)} (K : Kp Q G) (g_k_8 : G k_8) (g_h0 : G h0) (hko_ko2 : ∀ (w0 : St) (w1 : Int32), Q w0 → LkP Q (ko2 w0 w1)) : ∀ (f : Nat) (v1 : St) (v2 : Int32), Q v1 → LkP Q (fn_X9_gatherModules_L27 F sh n k_8 h0 p_1 ko2 f v1 v2) := by
  intro f
  induction f with
  | zero => intros; exact LkP.none
  | succ f_16 ih =>
    intro z_15 p_14 h_z_15
    exact (LkP.xg (LkP.ite (LkP.xc (lkp_fn_X9_keepValue K h_z_15 g_h0) (fun z_19 _ h_z_19 => (LkP.xl (fun k_21 q => have g_k_21 := K.2.2.2.2.2 _ _ _ _ h_z_19 g_h0 q; (LkP.xg (LkP.xc (lkp_fn_X0_start K h_z_19 g_k_21) (fun z_22 _ h_z_22 => (LkP.xl (fun k_25 q => have g_k_25 := K.2.2.2.2.2 _ _ _ _ h_z_22 g_h0 q; (LkP.xg (LkP.xc (lkp_fn_X0_put K h_z_22 g_k_25) (fun z_26 _ h_z_26 => (LkP.xl (fun k_29 q => have g_k_29 := K.2.2.2.2.2 _ _ _ _ h_z_26 g_h0 q; (LkP.xg (LkP.xc (lkp_fn_X0_put K h_z_26 g_k_29) (fun z_30 _ h_z_30 => (LkP.xl (fun k_33 q => have g_k_33 := K.2.2.2.2.2 _ _ _ _ h_z_30 g_h0 q; (LkP.xg (LkP.xc (lkp_fn_X0_put K h_z_30 g_k_33) (fun z_34 _ h_z_34 => (LkP.xc (lkp_fn_X9_addPlace K h_z_34 g_h0) (fun z_37 _ h_z_37 => (hko_ko2 _ _ h_z_37 ))))))))))))))))))))))))) (LkP.xl (fun k_39 q => have g_k_39 := K.2.2.2.2.2 _ _ _ _ h_z_15 g_h0 q; (LkP.xc (lkp_fn_X5_at K h_z_15 g_k_8) (fun z_40 r_41 h_z_40 => (LkP.xg (LkP.xc (lkp_fn_X0_put K h_z_40 g_k_39) (fun z_43 _ h_z_43 => (ih _ _ h_z_43 ))))))))))
theorem lkp_fn_X9_gatherModules_L2 {F : Nat} {sh : Nat → Nat × Nat} {n : Nat} {x0 : Nat} {h0 : Nat} (K : Kp Q G) (g_x0 : G x0) (g_h0 : G h0) : ∀ (f : Nat) (v1 : St) (v2 : Int32), Q v1 → LkP Q (fn_X9_gatherModules_L2 F sh n x0 h0 f v1 v2) := by
  intro f
  induction f with
  | zero => intros; exact LkP.none
  | succ f_3 ih =>
    intro z_2 p_1 h_z_2
    exact (LkP.xg (LkP.ite (LkP.ret h_z_2) (LkP.xl (fun k_6 q => have g_k_6 := K.2.2.2.2.2 _ _ _ _ h_z_2 g_x0 q; (LkP.xg (LkP.xl (fun k_8 q => have g_k_8 := K.2.2.2.2.2 _ _ _ _ h_z_2 g_k_6 q; (LkP.xg (LkP.xl (fun k_10 q => have g_k_10 := K.2.2.2.2.2 _ _ _ _ h_z_2 g_h0 q; (LkP.xg (LkP.xc (lkp_fn_X0_start K h_z_2 g_k_10) (fun z_11 _ h_z_11 => (lkp_fn_X9_gatherModules_L27 K g_k_8 g_h0 (fun z9 q2 hk_z9 => (ih _ _ hk_z9 )) _ _ _ h_z_11 ))))))))))))))
theorem lkp_fn_X9_gatherModules {F : Nat} {sh : Nat → Nat × Nat} {n : Nat} {z : St} {h0 : Nat} {x0 : Nat} (K : Kp Q G) (h_z : Q z) (g_h0 : G h0) (g_x0 : G x0) : LkP Q (fn_X9_gatherModules F sh n z h0 x0) := by
  unfold fn_X9_gatherModules
  exact (lkp_fn_X9_gatherModules_L2 K g_x0 g_h0 _ _ _ h_z )
theorem lkp_fn_X3_look_B68 {F : Nat} {sh : Nat → Nat × Nat} {n : Nat} {h0 : Nat} {p_8 : Int32} {ko38 : St → Option (St × Int32)} {z_28 : St} (K : Kp Q G) (h_z_28 : Q z_28) (g_h0 : G h0) (hko_ko38 : ∀ (w0 : St), Q w0 → LkP Q (ko38 w0)) : LkP Q (fn_X3_look_B68 F sh n h0 p_8 ko38 z_28) := by
  unfold fn_X3_look_B68
  exact (LkP.ite (LkP.lts (K.1 _ _ _ _ h_z_28 g_h0) (fun z_31 h_z_31 => (hko_ko38 _ h_z_31 ))) (LkP.lts (K.1 _ _ _ _ h_z_28 g_h0) (fun z_33 h_z_33 => (LkP.ret h_z_33))))
theorem lkp_fn_X3_look_L38 {F : Nat} {sh : Nat → Nat × Nat} {n : Nat} {h0 : Nat} {p_8 : Int32} {ko17 : St → Int32 → Option (St × Int32)} (K : Kp Q G) (g_h0 : G h0) (hko_ko17 : ∀ (w0 : St) (w1 : Int32), Q w0 → LkP Q (ko17 w0 w1)) : ∀ (f : Nat) (v1 : St), Q v1 → LkP Q (fn_X3_look_L38 F sh n h0 p_8 ko17 f v1) := by
  intro f
  induction f with
  | zero => intros; exact LkP.none
  | succ f_19 ih =>
    intro z_18 h_z_18
    exact (LkP.xl (fun k_20 q => have g_k_20 := K.2.2.2.2.2 _ _ _ _ h_z_18 g_h0 q; (LkP.xg (LkP.xc (lkp_fn_X5_instructions K h_z_18 g_k_20) (fun z_21 r_22 h_z_21 => (LkP.ite (hko_ko17 _ _ h_z_21 ) (LkP.xc (lkp_fn_X3_arrive K h_z_21 g_h0) (fun z_26 _ h_z_26 => (LkP.ite (LkP.xc (lkp_fn_X3_operate K h_z_26 g_h0) (fun z_35 _ h_z_35 => (lkp_fn_X3_look_B68 K h_z_35 g_h0 (fun z9 hk_z9 => (ih _ hk_z9 ))))) (lkp_fn_X3_look_B68 K h_z_26 g_h0 (fun z9 hk_z9 => (ih _ hk_z9 ))))))))))))
theorem lkp_fn_X3_look_L17 {F : Nat} {sh : Nat → Nat × Nat} {n : Nat} {h0 : Nat} (K : Kp Q G) (g_h0 : G h0) : ∀ (f : Nat) (v1 : St) (v2 : Int32), Q v1 → LkP Q (fn_X3_look_L17 F sh n h0 f v1 v2) := by
  intro f
  induction f with
  | zero => intros; exact LkP.none
  | succ f_10 ih =>
    intro z_9 p_8 h_z_9
    exact (LkP.xl (fun k_11 q => have g_k_11 := K.2.2.2.2.2 _ _ _ _ h_z_9 g_h0 q; (LkP.xg (LkP.ite (LkP.ret h_z_9) (LkP.xc (lkp_fn_X3_prepare K h_z_9 g_h0) (fun z_14 _ h_z_14 => (LkP.lts (K.1 _ _ _ _ h_z_14 g_h0) (fun z_17 h_z_17 => (lkp_fn_X3_look_L38 K g_h0 (fun z9 q2 hk_z9 => (ih _ _ hk_z9 )) _ _ h_z_17 )))))))))
theorem lkp_fn_X3_look {F : Nat} {sh : Nat → Nat × Nat} {n : Nat} {z : St} {h0 : Nat} {x0 : Nat} (K : Kp Q G) (h_z : Q z) (g_h0 : G h0) (g_x0 : G x0) : LkP Q (fn_X3_look F sh n z h0 x0) := by
  unfold fn_X3_look
  exact (LkP.xg (LkP.lts (K.2.2.1 _ _ _ _ h_z g_h0 (some_q g_x0)) (fun z_3 h_z_3 => (LkP.lts (K.1 _ _ _ _ h_z_3 g_h0) (fun z_5 h_z_5 => (LkP.lts (K.1 _ _ _ _ h_z_5 g_h0) (fun z_7 h_z_7 => (lkp_fn_X3_look_L17 K g_h0 _ _ _ h_z_7 ))))))))
theorem lkp_fn_X16_overFunction_B118 {F : Nat} {sh : Nat → Nat × Nat} {n : Nat} {h0 : Nat} {x0 : Int32} {z_33 : St} (K : Kp Q G) (h_z_33 : Q z_33) (g_h0 : G h0) : LkP Q (fn_X16_overFunction_B118 F sh n h0 x0 z_33) := by
  unfold fn_X16_overFunction_B118
  exact (LkP.xl (fun k_34 q => have g_k_34 := K.2.2.2.2.2 _ _ _ _ h_z_33 g_h0 q; (LkP.xg (LkP.lts (K.1 _ _ _ _ h_z_33 g_k_34) (fun z_37 h_z_37 => (LkP.ret h_z_37))))))
theorem lkp_fn_X16_overFunction_L95 {F : Nat} {sh : Nat → Nat × Nat} {n : Nat} {r_27 : Int32} {h0 : Nat} {x0 : Int32} (K : Kp Q G) (g_h0 : G h0) : ∀ (f : Nat) (v1 : St) (v2 : Int32), Q v1 → LkP Q (fn_X16_overFunction_L95 F sh n r_27 h0 x0 f v1 v2) := by
  intro f
  induction f with
  | zero => intros; exact LkP.none
  | succ f_32 ih =>
    intro z_31 p_30 h_z_31
    exact (LkP.ite (lkp_fn_X16_overFunction_B118 K h_z_31 g_h0) (LkP.xc (lkp_fn_X16_isGood K h_z_31 g_h0) (fun z_39 r_40 h_z_39 => (LkP.ite (lkp_fn_X16_overFunction_B118 K h_z_39 g_h0) (LkP.xc (lkp_fn_X16_overInstruction K h_z_39 g_h0) (fun z_43 _ h_z_43 => (ih _ _ h_z_43 )))))))
theorem lkp_fn_X16_overFunction_B92 {F : Nat} {sh : Nat → Nat × Nat} {n : Nat} {r_27 : Int32} {h0 : Nat} {x0 : Int32} {z_29 : St} (K : Kp Q G) (h_z_29 : Q z_29) (g_h0 : G h0) : LkP Q (fn_X16_overFunction_B92 F sh n r_27 h0 x0 z_29) := by
  unfold fn_X16_overFunction_B92
  exact (lkp_fn_X16_overFunction_L95 K g_h0 _ _ _ h_z_29 )
theorem lkp_fn_X16_overFunction_B86 {F : Nat} {sh : Nat → Nat × Nat} {n : Nat} {h0 : Nat} {r_20 : Int32} {r_27 : Int32} {x0 : Int32} {z_45 : St} (K : Kp Q G) (h_z_45 : Q z_45) (g_h0 : G h0) : LkP Q (fn_X16_overFunction_B86 F sh n h0 r_20 r_27 x0 z_45) := by
  unfold fn_X16_overFunction_B86
  exact (LkP.xc (lkp_fn_X16_fail K h_z_45 g_h0) (fun z_46 _ h_z_46 => (lkp_fn_X16_overFunction_B92 K h_z_46 g_h0)))
theorem lkp_fn_X16_overFunction {F : Nat} {sh : Nat → Nat × Nat} {n : Nat} {z : St} {h0 : Nat} {x0 : Int32} (K : Kp Q G) (h_z : Q z) (g_h0 : G h0) : LkP Q (fn_X16_overFunction F sh n z h0 x0) := by
  unfold fn_X16_overFunction
  exact (LkP.xg (LkP.xl (fun k_2 q => have g_k_2 := K.2.2.2.2.2 _ _ _ _ h_z g_h0 q; (LkP.xg (LkP.lts (K.1 _ _ _ _ h_z g_k_2) (fun z_5 h_z_5 => (LkP.xl (fun k_6 q => have g_k_6 := K.2.2.2.2.2 _ _ _ _ h_z_5 g_h0 q; (LkP.xg (LkP.lts (K.1 _ _ _ _ h_z_5 g_k_6) (fun z_9 h_z_9 => (LkP.xc (lkp_fn_X16_count K h_z_9 g_h0) (fun z_10 r_11 h_z_10 => (LkP.xc (lkp_fn_X16_overLists K h_z_10 g_h0) (fun z_13 _ h_z_13 => (LkP.xc (lkp_fn_X16_isGood K h_z_13 g_h0) (fun z_15 r_16 h_z_15 => (LkP.ite (LkP.ret h_z_15) (LkP.xc (lkp_fn_X16_over K h_z_15 g_h0) (fun z_19 r_20 h_z_19 => (LkP.xc (lkp_fn_X16_isGood K h_z_19 g_h0) (fun z_22 r_23 h_z_22 => (LkP.ite (LkP.ret h_z_22) (LkP.xc (lkp_fn_X16_shortAt K h_z_22 g_h0) (fun z_26 r_27 h_z_26 => (LkP.ite (lkp_fn_X16_overFunction_B86 K h_z_26 g_h0) (LkP.ite (lkp_fn_X16_overFunction_B86 K h_z_26 g_h0) (LkP.ite (lkp_fn_X16_overFunction_B92 K h_z_26 g_h0) (lkp_fn_X16_overFunction_B86 K h_z_26 g_h0)))))))))))))))))))))))))))))
theorem lkp_fn_X14_all_L114 {F : Nat} {sh : Nat → Nat × Nat} {n : Nat} {h0 : Nat} (K : Kp Q G) (g_h0 : G h0) : ∀ (f : Nat) (v1 : St) (v2 : Int32), Q v1 → LkP Q (fn_X14_all_L114 F sh n h0 f v1 v2) := by
  intro f
  induction f with
  | zero => intros; exact LkP.none
  | succ f_15 ih =>
    intro z_14 p_13 h_z_14
    exact (LkP.ite (LkP.ret h_z_14) (LkP.xc (lkp_fn_X14_level K h_z_14 g_h0) (fun z_17 _ h_z_17 => (ih _ _ h_z_17 ))))
theorem lkp_fn_X14_all_L86 {F : Nat} {sh : Nat → Nat × Nat} {n : Nat} {h0 : Nat} (K : Kp Q G) (g_h0 : G h0) : ∀ (f : Nat) (v1 : St) (v2 : Int32) (v3 : Int32), Q v1 → LkP Q (fn_X14_all_L86 F sh n h0 f v1 v2 v3) := by
  intro f
  induction f with
  | zero => intros; exact LkP.none
  | succ f_11 ih =>
    intro z_10 p_8 p_9 h_z_10
    exact (LkP.ite (lkp_fn_X14_all_L114 K g_h0 _ _ _ h_z_10 ) (LkP.xc (lkp_fn_X14_parting K h_z_10 g_h0) (fun z_19 r_20 h_z_19 => (LkP.ltv (fun v_22 => (ih _ _ _ h_z_19 ))))))
theorem lkp_fn_X14_all_L10 {F : Nat} {sh : Nat → Nat × Nat} {n : Nat} {h0 : Nat} (K : Kp Q G) (g_h0 : G h0) : ∀ (f : Nat) (v1 : St) (v2 : Int32), Q v1 → LkP Q (fn_X14_all_L10 F sh n h0 f v1 v2) := by
  intro f
  induction f with
  | zero => intros; exact LkP.none
  | succ f_6 ih =>
    intro z_5 p_4 h_z_5
    exact (LkP.ite (lkp_fn_X14_all_L86 K g_h0 _ _ _ _ h_z_5 ) (LkP.xl (fun k_23 q => have g_k_23 := K.2.2.2.2.2 _ _ _ _ h_z_5 g_h0 q; (LkP.xg (LkP.lts (K.1 _ _ _ _ h_z_5 g_k_23) (fun z_26 h_z_26 => (LkP.xl (fun k_27 q => have g_k_27 := K.2.2.2.2.2 _ _ _ _ h_z_26 g_h0 q; (LkP.xg (LkP.lts (K.1 _ _ _ _ h_z_26 g_k_27) (fun z_30 h_z_30 => (LkP.xl (fun k_31 q => have g_k_31 := K.2.2.2.2.2 _ _ _ _ h_z_30 g_h0 q; (LkP.xg (LkP.xc (lkp_fn_X12_begin K h_z_30 g_k_31) (fun z_32 _ h_z_32 => (LkP.xl (fun k_35 q => have g_k_35 := K.2.2.2.2.2 _ _ _ _ h_z_32 g_h0 q; (LkP.xg (LkP.xc (lkp_fn_X12_add K h_z_32 g_k_35) (fun z_36 _ h_z_36 => (LkP.xl (fun k_39 q => have g_k_39 := K.2.2.2.2.2 _ _ _ _ h_z_36 g_h0 q; (LkP.xc (lkp_fn_X14_add K h_z_36 g_h0 g_k_39) (fun z_40 _ h_z_40 => (LkP.xl (fun k_42 q => have g_k_42 := K.2.2.2.2.2 _ _ _ _ h_z_40 g_h0 q; (LkP.xc (lkp_fn_X14_add K h_z_40 g_h0 g_k_42) (fun z_43 _ h_z_43 => (LkP.xc (lkp_fn_X14_keepHash K h_z_43 g_h0) (fun z_45 _ h_z_45 => (ih _ _ h_z_45 ))))))))))))))))))))))))))))))))
theorem lkp_fn_X14_all {F : Nat} {sh : Nat → Nat × Nat} {n : Nat} {z : St} {h0 : Nat} (K : Kp Q G) (h_z : Q z) (g_h0 : G h0) : LkP Q (fn_X14_all F sh n z h0) := by
  unfold fn_X14_all
  exact (LkP.xg (LkP.lts (K.1 _ _ _ _ h_z g_h0) (fun z_3 h_z_3 => (lkp_fn_X14_all_L10 K g_h0 _ _ _ h_z_3 ))))
theorem lkp_fn_X6_read_B150 {F : Nat} {sh : Nat → Nat × Nat} {n : Nat} {h0 : Nat} {z_11 : St} (K : Kp Q G) (h_z_11 : Q z_11) (g_h0 : G h0) : LkP Q (fn_X6_read_B150 F sh n h0 z_11) := by
  unfold fn_X6_read_B150
  exact (LkP.ite (LkP.xc (lkp_fn_X6_findRound K h_z_11 g_h0) (fun z_13 _ h_z_13 => (LkP.ret h_z_13))) (LkP.ret h_z_11))
theorem lkp_fn_X6_read_B144 {F : Nat} {sh : Nat → Nat × Nat} {n : Nat} {p_8 : Int32} {ko17 : St → Int32 → Option (St × Int32)} {z_59 : St} (K : Kp Q G) (h_z_59 : Q z_59) (hko_ko17 : ∀ (w0 : St) (w1 : Int32), Q w0 → LkP Q (ko17 w0 w1)) : LkP Q (fn_X6_read_B144 F sh n p_8 ko17 z_59) := by
  unfold fn_X6_read_B144
  exact (hko_ko17 _ _ h_z_59 )
theorem lkp_fn_X6_read_B40 {F : Nat} {sh : Nat → Nat × Nat} {n : Nat} {h0 : Nat} {p_8 : Int32} {ko17 : St → Int32 → Option (St × Int32)} {z_18 : St} {p_17 : Int32} (K : Kp Q G) (h_z_18 : Q z_18) (g_h0 : G h0) (hko_ko17 : ∀ (w0 : St) (w1 : Int32), Q w0 → LkP Q (ko17 w0 w1)) : LkP Q (fn_X6_read_B40 F sh n h0 p_8 ko17 z_18 p_17) := by
  unfold fn_X6_read_B40
  exact (LkP.xg (LkP.lts (K.1 _ _ _ _ h_z_18 g_h0) (fun z_21 h_z_21 => (LkP.lts (K.1 _ _ _ _ h_z_21 g_h0) (fun z_23 h_z_23 => (LkP.lts (K.1 _ _ _ _ h_z_23 g_h0) (fun z_25 h_z_25 => (LkP.xl (fun k_26 q => have g_k_26 := K.2.2.2.2.2 _ _ _ _ h_z_25 g_h0 q; (LkP.xg (LkP.xc (lkp_fn_X5_clear K h_z_25 g_k_26) (fun z_27 _ h_z_27 => (LkP.xc (lkp_fn_X6_readBeginning K h_z_27 g_h0) (fun z_30 _ h_z_30 => (LkP.xc (lkp_fn_X6_readStructures K h_z_30 g_h0) (fun z_32 _ h_z_32 => (LkP.xc (lkp_fn_X6_readForeignStructures K h_z_32 g_h0) (fun z_34 _ h_z_34 => (LkP.xc (lkp_fn_X6_readForeignFunctions K h_z_34 g_h0) (fun z_36 _ h_z_36 => (LkP.xl (fun k_38 q => have g_k_38 := K.2.2.2.2.2 _ _ _ _ h_z_36 g_h0 q; (LkP.xl (fun k_39 q => have g_k_39 := K.2.2.2.2.2 _ _ _ _ h_z_36 g_h0 q; (LkP.xg (LkP.xg (LkP.lts (K.1 _ _ _ _ h_z_36 g_k_38) (fun z_43 h_z_43 => (LkP.xl (fun k_44 q => have g_k_44 := K.2.2.2.2.2 _ _ _ _ h_z_43 g_h0 q; (LkP.xc (lkp_fn_X6_readNumber K h_z_43 g_h0) (fun z_45 r_46 h_z_45 => (LkP.xg (LkP.lts (K.1 _ _ _ _ h_z_45 g_k_44) (fun z_50 h_z_50 => (LkP.xl (fun k_51 q => have g_k_51 := K.2.2.2.2.2 _ _ _ _ h_z_50 g_h0 q; (LkP.xg (LkP.xc (lkp_fn_X6_readTypes K h_z_50 g_h0) (fun z_53 _ h_z_53 => (LkP.xc (lkp_fn_X6_readFunctions K h_z_53 g_h0) (fun z_55 _ h_z_55 => (LkP.xl (fun k_57 q => have g_k_57 := K.2.2.2.2.2 _ _ _ _ h_z_55 g_h0 q; (LkP.xg (LkP.ite (lkp_fn_X6_read_B144 K h_z_55 (fun z9 q2 hk_z9 => (hko_ko17 _ _ hk_z9 ))) (LkP.xc (lkp_fn_X6_fail K h_z_55 g_h0) (fun z_61 _ h_z_61 => (lkp_fn_X6_read_B144 K h_z_61 (fun z9 q2 hk_z9 => (hko_ko17 _ _ hk_z9 )))))))))))))))))))))))))))))))))))))))))))))))))))
theorem lkp_fn_X6_read_L17 {F : Nat} {sh : Nat → Nat × Nat} {n : Nat} {h0 : Nat} (K : Kp Q G) (g_h0 : G h0) : ∀ (f : Nat) (v1 : St) (v2 : Int32), Q v1 → LkP Q (fn_X6_read_L17 F sh n h0 f v1 v2) := by
  intro f
  induction f with
  | zero => intros; exact LkP.none
  | succ f_10 ih =>
    intro z_9 p_8 h_z_9
    exact (LkP.ite (lkp_fn_X6_read_B150 K h_z_9 g_h0) (LkP.ite (LkP.ite (lkp_fn_X6_read_B40 K h_z_9 g_h0 (fun z9 q2 hk_z9 => (ih _ _ hk_z9 ))) (lkp_fn_X6_read_B40 K h_z_9 g_h0 (fun z9 q2 hk_z9 => (ih _ _ hk_z9 )))) (lkp_fn_X6_read_B150 K h_z_9 g_h0)))
theorem lkp_fn_X6_read {F : Nat} {sh : Nat → Nat × Nat} {n : Nat} {z : St} {h0 : Nat} {x0 : Nat} (K : Kp Q G) (h_z : Q z) (g_h0 : G h0) (g_x0 : G x0) : LkP Q (fn_X6_read F sh n z h0 x0) := by
  unfold fn_X6_read
  exact (LkP.xg (LkP.lts (K.2.2.1 _ _ _ _ h_z g_h0 (some_q g_x0)) (fun z_3 h_z_3 => (LkP.lts (K.1 _ _ _ _ h_z_3 g_h0) (fun z_5 h_z_5 => (LkP.lts (K.1 _ _ _ _ h_z_5 g_h0) (fun z_7 h_z_7 => (lkp_fn_X6_read_L17 K g_h0 _ _ _ h_z_7 ))))))))
theorem lkp_fn_X9_gatherResources_B164 {F : Nat} {sh : Nat → Nat × Nat} {n : Nat} {p_1 : Int32} {ko2 : St → Int32 → Option (St × Unit)} {z_8 : St} (K : Kp Q G) (h_z_8 : Q z_8) (hko_ko2 : ∀ (w0 : St) (w1 : Int32), Q w0 → LkP Q (ko2 w0 w1)) : LkP Q (fn_X9_gatherResources_B164 F sh n p_1 ko2 z_8) := by
  unfold fn_X9_gatherResources_B164
  exact (hko_ko2 _ _ h_z_8 )
theorem lkp_fn_X9_gatherResources_L41 {F : Nat} {sh : Nat → Nat × Nat} {n : Nat} {r_13 : Int32} {h0 : Nat} {x0 : Nat} {p_1 : Int32} {ko2 : St → Int32 → Option (St × Unit)} (K : Kp Q G) (g_h0 : G h0) (g_x0 : G x0) (hko_ko2 : ∀ (w0 : St) (w1 : Int32), Q w0 → LkP Q (ko2 w0 w1)) : ∀ (f : Nat) (v1 : St) (v2 : Int32), Q v1 → LkP Q (fn_X9_gatherResources_L41 F sh n r_13 h0 x0 p_1 ko2 f v1 v2) := by
  intro f
  induction f with
  | zero => intros; exact LkP.none
  | succ f_21 ih =>
    intro z_20 p_19 h_z_20
    exact (LkP.ite (LkP.xc (lkp_fn_X9_keepValue K h_z_20 g_h0) (fun z_23 _ h_z_23 => (LkP.xl (fun k_25 q => have g_k_25 := K.2.2.2.2.2 _ _ _ _ h_z_23 g_h0 q; (LkP.xg (LkP.xc (lkp_fn_X0_start K h_z_23 g_k_25) (fun z_26 _ h_z_26 => (LkP.xl (fun k_29 q => have g_k_29 := K.2.2.2.2.2 _ _ _ _ h_z_26 g_h0 q; (LkP.xg (LkP.xc (lkp_fn_X0_put K h_z_26 g_k_29) (fun z_30 _ h_z_30 => (LkP.xl (fun k_33 q => have g_k_33 := K.2.2.2.2.2 _ _ _ _ h_z_30 g_h0 q; (LkP.xl (fun k_34 q => have g_k_34 := K.2.2.2.2.2 _ _ _ _ h_z_30 g_x0 q; (LkP.xg (LkP.xg (LkP.xc (lkp_fn_X0_putLong K h_z_30 g_k_33) (fun z_36 _ h_z_36 => (LkP.xl (fun k_39 q => have g_k_39 := K.2.2.2.2.2 _ _ _ _ h_z_36 g_h0 q; (LkP.xl (fun k_40 q => have g_k_40 := K.2.2.2.2.2 _ _ _ _ h_z_36 g_x0 q; (LkP.xg (LkP.xg (LkP.xc (lkp_fn_X0_put K h_z_36 g_k_39) (fun z_42 _ h_z_42 => (LkP.xl (fun k_45 q => have g_k_45 := K.2.2.2.2.2 _ _ _ _ h_z_42 g_h0 q; (LkP.xl (fun k_46 q => have g_k_46 := K.2.2.2.2.2 _ _ _ _ h_z_42 g_x0 q; (LkP.xg (LkP.xg (LkP.xc (lkp_fn_X0_put K h_z_42 g_k_45) (fun z_48 _ h_z_48 => (LkP.xl (fun k_51 q => have g_k_51 := K.2.2.2.2.2 _ _ _ _ h_z_48 g_h0 q; (LkP.xl (fun k_52 q => have g_k_52 := K.2.2.2.2.2 _ _ _ _ h_z_48 g_x0 q; (LkP.xg (LkP.xg (LkP.xc (lkp_fn_X0_put K h_z_48 g_k_51) (fun z_54 _ h_z_54 => (LkP.xl (fun k_57 q => have g_k_57 := K.2.2.2.2.2 _ _ _ _ h_z_54 g_x0 q; (LkP.xg (LkP.xl (fun k_59 q => have g_k_59 := K.2.2.2.2.2 _ _ _ _ h_z_54 g_x0 q; (LkP.xg (LkP.xl (fun k_61 q => have g_k_61 := K.2.2.2.2.2 _ _ _ _ h_z_54 g_x0 q; (LkP.xg (LkP.xc (lkp_fn_X9_addPlace K h_z_54 g_h0) (fun z_63 _ h_z_63 => (lkp_fn_X9_gatherResources_B164 K h_z_63 (fun z9 q2 hk_z9 => (hko_ko2 _ _ hk_z9 )))))))))))))))))))))))))))))))))))))))))))))))))))))))))) (LkP.xl (fun k_65 q => have g_k_65 := K.2.2.2.2.2 _ _ _ _ h_z_20 g_h0 q; (LkP.xl (fun k_66 q => have g_k_66 := K.2.2.2.2.2 _ _ _ _ h_z_20 g_h0 q; (LkP.xg (LkP.xg (LkP.xc (lkp_fn_X0_put K h_z_20 g_k_65) (fun z_68 _ h_z_68 => (ih _ _ h_z_68 ))))))))))
theorem lkp_fn_X9_gatherResources_L2 {F : Nat} {sh : Nat → Nat × Nat} {n : Nat} {x0 : Nat} {h0 : Nat} (K : Kp Q G) (g_x0 : G x0) (g_h0 : G h0) : ∀ (f : Nat) (v1 : St) (v2 : Int32), Q v1 → LkP Q (fn_X9_gatherResources_L2 F sh n x0 h0 f v1 v2) := by
  intro f
  induction f with
  | zero => intros; exact LkP.none
  | succ f_3 ih =>
    intro z_2 p_1 h_z_2
    exact (LkP.ite (LkP.ret h_z_2) (LkP.xg (LkP.xl (fun k_6 q => have g_k_6 := K.2.2.2.2.2 _ _ _ _ h_z_2 g_x0 q; (LkP.xg (LkP.ite (lkp_fn_X9_gatherResources_B164 K h_z_2 (fun z9 q2 hk_z9 => (ih _ _ hk_z9 ))) (LkP.xg (LkP.xl (fun k_11 q => have g_k_11 := K.2.2.2.2.2 _ _ _ _ h_z_2 g_h0 q; (LkP.xc (lkp_fn_X7_writeBytes K h_z_2 g_x0 g_k_11) (fun z_12 r_13 h_z_12 => (LkP.xl (fun k_15 q => have g_k_15 := K.2.2.2.2.2 _ _ _ _ h_z_12 g_h0 q; (LkP.xg (LkP.xc (lkp_fn_X0_start K h_z_12 g_k_15) (fun z_16 _ h_z_16 => (lkp_fn_X9_gatherResources_L41 K g_h0 g_x0 (fun z9 q2 hk_z9 => (ih _ _ hk_z9 )) _ _ _ h_z_16 )))))))))))))))))
theorem lkp_fn_X9_gatherResources {F : Nat} {sh : Nat → Nat × Nat} {n : Nat} {z : St} {h0 : Nat} {x0 : Nat} (K : Kp Q G) (h_z : Q z) (g_h0 : G h0) (g_x0 : G x0) : LkP Q (fn_X9_gatherResources F sh n z h0 x0) := by
  unfold fn_X9_gatherResources
  exact (lkp_fn_X9_gatherResources_L2 K g_x0 g_h0 _ _ _ h_z )
theorem lkp_fn_X13_come_B168 {F : Nat} {sh : Nat → Nat × Nat} {n : Nat} {p_9 : Int32} {ko38 : St → Int32 → Option (St × Unit)} {z_15 : St} (K : Kp Q G) (h_z_15 : Q z_15) (hko_ko38 : ∀ (w0 : St) (w1 : Int32), Q w0 → LkP Q (ko38 w0 w1)) : LkP Q (fn_X13_come_B168 F sh n p_9 ko38 z_15) := by
  unfold fn_X13_come_B168
  exact (hko_ko38 _ _ h_z_15 )
theorem lkp_fn_X13_come_B140 {F : Nat} {sh : Nat → Nat × Nat} {n : Nat} {k_36 : Nat} {v_14 : Int32} {p_9 : Int32} {ko38 : St → Int32 → Option (St × Unit)} {z_40 : St} {p_39 : Int32} (K : Kp Q G) (h_z_40 : Q z_40) (g_k_36 : G k_36) (hko_ko38 : ∀ (w0 : St) (w1 : Int32), Q w0 → LkP Q (ko38 w0 w1)) : LkP Q (fn_X13_come_B140 F sh n k_36 v_14 p_9 ko38 z_40 p_39) := by
  unfold fn_X13_come_B140
  exact (LkP.xg (LkP.lts (K.1 _ _ _ _ h_z_40 g_k_36) (fun z_43 h_z_43 => (lkp_fn_X13_come_B168 K h_z_43 (fun z9 q4 hk_z9 => (hko_ko38 _ _ hk_z9 ))))))
theorem lkp_fn_X13_come_B139 {F : Nat} {sh : Nat → Nat × Nat} {n : Nat} {k_36 : Nat} {v_14 : Int32} {p_9 : Int32} {ko38 : St → Int32 → Option (St × Unit)} {z_44 : St} (K : Kp Q G) (h_z_44 : Q z_44) (g_k_36 : G k_36) (hko_ko38 : ∀ (w0 : St) (w1 : Int32), Q w0 → LkP Q (ko38 w0 w1)) : LkP Q (fn_X13_come_B139 F sh n k_36 v_14 p_9 ko38 z_44) := by
  unfold fn_X13_come_B139
  exact (lkp_fn_X13_come_B140 K h_z_44 g_k_36 (fun z9 q4 hk_z9 => (hko_ko38 _ _ hk_z9 )))
theorem lkp_fn_X13_come_B108 {F : Nat} {sh : Nat → Nat × Nat} {n : Nat} {k_28 : Nat} {v_14 : Int32} {h0 : Nat} {p_9 : Int32} {ko38 : St → Int32 → Option (St × Unit)} {z_32 : St} {p_31 : Int64} (K : Kp Q G) (h_z_32 : Q z_32) (g_k_28 : G k_28) (g_h0 : G h0) (hko_ko38 : ∀ (w0 : St) (w1 : Int32), Q w0 → LkP Q (ko38 w0 w1)) : LkP Q (fn_X13_come_B108 F sh n k_28 v_14 h0 p_9 ko38 z_32 p_31) := by
  unfold fn_X13_come_B108
  exact (LkP.xg (LkP.lts (K.2.1 _ _ _ _ h_z_32 g_k_28) (fun z_35 h_z_35 => (LkP.xl (fun k_36 q => have g_k_36 := K.2.2.2.2.2 _ _ _ _ h_z_35 g_h0 q; (LkP.xl (fun k_37 q => have g_k_37 := K.2.2.2.2.2 _ _ _ _ h_z_35 g_h0 q; (LkP.xg (LkP.ite (lkp_fn_X13_come_B139 K h_z_35 g_k_36 (fun z9 q4 hk_z9 => (hko_ko38 _ _ hk_z9 ))) (LkP.xl (fun k_46 q => have g_k_46 := K.2.2.2.2.2 _ _ _ _ h_z_35 g_h0 q; (LkP.xg (LkP.ite (lkp_fn_X13_come_B139 K h_z_35 g_k_36 (fun z9 q4 hk_z9 => (hko_ko38 _ _ hk_z9 ))) (lkp_fn_X13_come_B140 K h_z_35 g_k_36 (fun z9 q4 hk_z9 => (hko_ko38 _ _ hk_z9 ))))))))))))))))
theorem lkp_fn_X13_come_L38 {F : Nat} {sh : Nat → Nat × Nat} {n : Nat} {h0 : Nat} {x1 : Int32} {p_3 : Int32} {x0 : Int32} (K : Kp Q G) (g_h0 : G h0) : ∀ (f : Nat) (v1 : St) (v2 : Int32), Q v1 → LkP Q (fn_X13_come_L38 F sh n h0 x1 p_3 x0 f v1 v2) := by
  intro f
  induction f with
  | zero => intros; exact LkP.none
  | succ f_11 ih =>
    intro z_10 p_9 h_z_10
    exact (LkP.ite (LkP.ret h_z_10) (LkP.ite (LkP.ltv (fun v_14 => (LkP.ite (LkP.ite (LkP.xc (lkp_fn_X13_back K h_z_10 g_h0) (fun z_18 _ h_z_18 => (lkp_fn_X13_come_B168 K h_z_18 (fun z9 q4 hk_z9 => (ih _ _ hk_z9 ))))) (LkP.xc (lkp_fn_X13_meet K h_z_10 g_h0) (fun z_20 _ h_z_20 => (lkp_fn_X13_come_B168 K h_z_20 (fun z9 q4 hk_z9 => (ih _ _ hk_z9 )))))) (LkP.xl (fun k_22 q => have g_k_22 := K.2.2.2.2.2 _ _ _ _ h_z_10 g_h0 q; (LkP.xl (fun k_23 q => have g_k_23 := K.2.2.2.2.2 _ _ _ _ h_z_10 g_h0 q; (LkP.xg (LkP.xg (LkP.lts (K.1 _ _ _ _ h_z_10 g_k_22) (fun z_27 h_z_27 => (LkP.xl (fun k_28 q => have g_k_28 := K.2.2.2.2.2 _ _ _ _ h_z_27 g_h0 q; (LkP.xl (fun k_29 q => have g_k_29 := K.2.2.2.2.2 _ _ _ _ h_z_27 g_h0 q; (LkP.xg (LkP.ite (lkp_fn_X13_come_B108 K h_z_27 g_k_28 g_h0 (fun z9 q4 hk_z9 => (ih _ _ hk_z9 ))) (LkP.xl (fun k_50 q => have g_k_50 := K.2.2.2.2.2 _ _ _ _ h_z_27 g_h0 q; (LkP.xg (lkp_fn_X13_come_B108 K h_z_27 g_k_28 g_h0 (fun z9 q4 hk_z9 => (ih _ _ hk_z9 ))))))))))))))))))))))) (LkP.ret h_z_10)))
theorem lkp_fn_X13_come_B27 {F : Nat} {sh : Nat → Nat × Nat} {n : Nat} {h0 : Nat} {x1 : Int32} {x0 : Int32} {z_4 : St} {p_3 : Int32} (K : Kp Q G) (h_z_4 : Q z_4) (g_h0 : G h0) : LkP Q (fn_X13_come_B27 F sh n h0 x1 x0 z_4 p_3) := by
  unfold fn_X13_come_B27
  exact (LkP.xl (fun k_5 q => have g_k_5 := K.2.2.2.2.2 _ _ _ _ h_z_4 g_h0 q; (LkP.xg (LkP.lts (K.1 _ _ _ _ h_z_4 g_k_5) (fun z_8 h_z_8 => (lkp_fn_X13_come_L38 K g_h0 _ _ _ h_z_8 ))))))
theorem lkp_fn_X13_come_B26 {F : Nat} {sh : Nat → Nat × Nat} {n : Nat} {h0 : Nat} {x1 : Int32} {x0 : Int32} {z_52 : St} (K : Kp Q G) (h_z_52 : Q z_52) (g_h0 : G h0) : LkP Q (fn_X13_come_B26 F sh n h0 x1 x0 z_52) := by
  unfold fn_X13_come_B26
  exact (lkp_fn_X13_come_B27 K h_z_52 g_h0)
theorem lkp_fn_X13_come {F : Nat} {sh : Nat → Nat × Nat} {n : Nat} {z : St} {h0 : Nat} {x0 : Int32} {x1 : Int32} (K : Kp Q G) (h_z : Q z) (g_h0 : G h0) : LkP Q (fn_X13_come F sh n z h0 x0 x1) := by
  unfold fn_X13_come
  exact (LkP.xg (LkP.ite (LkP.ite (lkp_fn_X13_come_B26 K h_z g_h0) (LkP.xl (fun k_54 q => have g_k_54 := K.2.2.2.2.2 _ _ _ _ h_z g_h0 q; (LkP.xg (LkP.ite (lkp_fn_X13_come_B27 K h_z g_h0) (lkp_fn_X13_come_B26 K h_z g_h0)))))) (LkP.ret h_z)))
theorem lkp_fn_X2_commit_B176 {F : Nat} {sh : Nat → Nat × Nat} {n : Nat} {p_6 : Int32} {ko71 : St → Int32 → Option (St × Unit)} {z_12 : St} (K : Kp Q G) (h_z_12 : Q z_12) (hko_ko71 : ∀ (w0 : St) (w1 : Int32), Q w0 → LkP Q (ko71 w0 w1)) : LkP Q (fn_X2_commit_B176 F sh n p_6 ko71 z_12) := by
  unfold fn_X2_commit_B176
  exact (hko_ko71 _ _ h_z_12 )
theorem lkp_fn_X2_commit_B152 {F : Nat} {sh : Nat → Nat × Nat} {n : Nat} {h0 : Nat} {p_6 : Int32} {ko71 : St → Int32 → Option (St × Unit)} {z_13 : St} (K : Kp Q G) (h_z_13 : Q z_13) (g_h0 : G h0) (hko_ko71 : ∀ (w0 : St) (w1 : Int32), Q w0 → LkP Q (ko71 w0 w1)) : LkP Q (fn_X2_commit_B152 F sh n h0 p_6 ko71 z_13) := by
  unfold fn_X2_commit_B152
  exact (LkP.xl (fun k_14 q => have g_k_14 := K.2.2.2.2.2 _ _ _ _ h_z_13 g_h0 q; (LkP.xg (LkP.ite (LkP.xl (fun k_17 q => have g_k_17 := K.2.2.2.2.2 _ _ _ _ h_z_13 g_h0 q; (LkP.xg (LkP.ite (lkp_fn_X2_commit_B176 K h_z_13 (fun z9 q1 hk_z9 => (hko_ko71 _ _ hk_z9 ))) (LkP.xc (lkp_fn_X2_storeResource K h_z_13 g_h0) (fun z_20 _ h_z_20 => (lkp_fn_X2_commit_B176 K h_z_20 (fun z9 q1 hk_z9 => (hko_ko71 _ _ hk_z9 ))))))))) (lkp_fn_X2_commit_B176 K h_z_13 (fun z9 q1 hk_z9 => (hko_ko71 _ _ hk_z9 )))))))
theorem lkp_fn_X2_commit_B133 {F : Nat} {sh : Nat → Nat × Nat} {n : Nat} {h0 : Nat} {p_6 : Int32} {ko71 : St → Int32 → Option (St × Unit)} {z_34 : St} {p_33 : Int32} (K : Kp Q G) (h_z_34 : Q z_34) (g_h0 : G h0) (hko_ko71 : ∀ (w0 : St) (w1 : Int32), Q w0 → LkP Q (ko71 w0 w1)) : LkP Q (fn_X2_commit_B133 F sh n h0 p_6 ko71 z_34 p_33) := by
  unfold fn_X2_commit_B133
  exact (LkP.xl (fun k_35 q => have g_k_35 := K.2.2.2.2.2 _ _ _ _ h_z_34 g_h0 q; (LkP.xg (LkP.xl (fun k_37 q => have g_k_37 := K.2.2.2.2.2 _ _ _ _ h_z_34 g_k_35 q; (LkP.xl (fun k_38 q => have g_k_38 := K.2.2.2.2.2 _ _ _ _ h_z_34 g_h0 q; (LkP.xg (LkP.xg (LkP.lts (K.2.1 _ _ _ _ h_z_34 g_k_37) (fun z_42 h_z_42 => (lkp_fn_X2_commit_B176 K h_z_42 (fun z9 q1 hk_z9 => (hko_ko71 _ _ hk_z9 ))))))))))))))
theorem lkp_fn_X2_commit_L71 {F : Nat} {sh : Nat → Nat × Nat} {n : Nat} {h0 : Nat} (K : Kp Q G) (g_h0 : G h0) : ∀ (f : Nat) (v1 : St) (v2 : Int32), Q v1 → LkP Q (fn_X2_commit_L71 F sh n h0 f v1 v2) := by
  intro f
  induction f with
  | zero => intros; exact LkP.none
  | succ f_8 ih =>
    intro z_7 p_6 h_z_7
    exact (LkP.ite (LkP.ret h_z_7) (LkP.xl (fun k_10 q => have g_k_10 := K.2.2.2.2.2 _ _ _ _ h_z_7 g_h0 q; (LkP.xg (LkP.ite (LkP.xl (fun k_23 q => have g_k_23 := K.2.2.2.2.2 _ _ _ _ h_z_7 g_h0 q; (LkP.xg (LkP.ite (lkp_fn_X2_commit_B152 K h_z_7 g_h0 (fun z9 q1 hk_z9 => (ih _ _ hk_z9 ))) (LkP.xl (fun k_26 q => have g_k_26 := K.2.2.2.2.2 _ _ _ _ h_z_7 g_h0 q; (LkP.xl (fun k_27 q => have g_k_27 := K.2.2.2.2.2 _ _ _ _ h_z_7 g_h0 q; (LkP.xg (LkP.xg (LkP.xc (lkp_fn_X7_findAccount K h_z_7 g_k_26) (fun z_29 r_30 h_z_29 => (LkP.ite (lkp_fn_X2_commit_B133 K h_z_29 g_h0 (fun z9 q1 hk_z9 => (ih _ _ hk_z9 ))) (LkP.xl (fun k_44 q => have g_k_44 := K.2.2.2.2.2 _ _ _ _ h_z_29 g_h0 q; (LkP.xl (fun k_45 q => have g_k_45 := K.2.2.2.2.2 _ _ _ _ h_z_29 g_h0 q; (LkP.xg (LkP.xg (LkP.xc (lkp_fn_X7_openAccount K h_z_29 g_k_44) (fun z_47 r_48 h_z_47 => (lkp_fn_X2_commit_B133 K h_z_47 g_h0 (fun z9 q1 hk_z9 => (ih _ _ hk_z9 )))))))))))))))))))))))) (lkp_fn_X2_commit_B152 K h_z_7 g_h0 (fun z9 q1 hk_z9 => (ih _ _ hk_z9 ))))))))
theorem lkp_fn_X2_commit_B63 {F : Nat} {sh : Nat → Nat × Nat} {n : Nat} {p_1 : Int32} {ko2 : St → Int32 → Option (St × Unit)} {z_53 : St} (K : Kp Q G) (h_z_53 : Q z_53) (hko_ko2 : ∀ (w0 : St) (w1 : Int32), Q w0 → LkP Q (ko2 w0 w1)) : LkP Q (fn_X2_commit_B63 F sh n p_1 ko2 z_53) := by
  unfold fn_X2_commit_B63
  exact (hko_ko2 _ _ h_z_53 )
theorem lkp_fn_X2_commit_L2 {F : Nat} {sh : Nat → Nat × Nat} {n : Nat} {h0 : Nat} (K : Kp Q G) (g_h0 : G h0) : ∀ (f : Nat) (v1 : St) (v2 : Int32), Q v1 → LkP Q (fn_X2_commit_L2 F sh n h0 f v1 v2) := by
  intro f
  induction f with
  | zero => intros; exact LkP.none
  | succ f_3 ih =>
    intro z_2 p_1 h_z_2
    exact (LkP.xg (LkP.ite (lkp_fn_X2_commit_L71 K g_h0 _ _ _ h_z_2 ) (LkP.xl (fun k_51 q => have g_k_51 := K.2.2.2.2.2 _ _ _ _ h_z_2 g_h0 q; (LkP.xg (LkP.ite (LkP.xl (fun k_55 q => have g_k_55 := K.2.2.2.2.2 _ _ _ _ h_z_2 g_h0 q; (LkP.xg (LkP.ite (lkp_fn_X2_commit_B63 K h_z_2 (fun z9 q1 hk_z9 => (ih _ _ hk_z9 ))) (LkP.xl (fun k_58 q => have g_k_58 := K.2.2.2.2.2 _ _ _ _ h_z_2 g_h0 q; (LkP.xg (LkP.ite (LkP.xl (fun k_61 q => have g_k_61 := K.2.2.2.2.2 _ _ _ _ h_z_2 g_h0 q; (LkP.xl (fun k_62 q => have g_k_62 := K.2.2.2.2.2 _ _ _ _ h_z_2 g_h0 q; (LkP.xg (LkP.xl (fun k_64 q => have g_k_64 := K.2.2.2.2.2 _ _ _ _ h_z_2 g_h0 q; (LkP.xg (LkP.xl (fun k_66 q => have g_k_66 := K.2.2.2.2.2 _ _ _ _ h_z_2 g_h0 q; (LkP.xg (LkP.xg (LkP.xc (lkp_fn_X7_removeResource K h_z_2 g_k_61) (fun z_68 _ h_z_68 => (lkp_fn_X2_commit_B63 K h_z_68 (fun z9 q1 hk_z9 => (ih _ _ hk_z9 ))))))))))))))))) (lkp_fn_X2_commit_B63 K h_z_2 (fun z9 q1 hk_z9 => (ih _ _ hk_z9 ))))))))))) (lkp_fn_X2_commit_B63 K h_z_2 (fun z9 q1 hk_z9 => (ih _ _ hk_z9 )))))))))
theorem lkp_fn_X2_commit {F : Nat} {sh : Nat → Nat × Nat} {n : Nat} {z : St} {h0 : Nat} (K : Kp Q G) (h_z : Q z) (g_h0 : G h0) : LkP Q (fn_X2_commit F sh n z h0) := by
  unfold fn_X2_commit
  exact (lkp_fn_X2_commit_L2 K g_h0 _ _ _ h_z )
theorem lkp_fn_X16_lookAll_B239 {F : Nat} {sh : Nat → Nat × Nat} {n : Nat} {p_14 : Int32} {ko131 : St → Int32 → Option (St × Unit)} {z_48 : St} (K : Kp Q G) (h_z_48 : Q z_48) (hko_ko131 : ∀ (w0 : St) (w1 : Int32), Q w0 → LkP Q (ko131 w0 w1)) : LkP Q (fn_X16_lookAll_B239 F sh n p_14 ko131 z_48) := by
  unfold fn_X16_lookAll_B239
  exact (hko_ko131 _ _ h_z_48 )
theorem lkp_fn_X16_lookAll_L188 {F : Nat} {sh : Nat → Nat × Nat} {n : Nat} {h0 : Nat} {p_14 : Int32} {v_39 : Int32} {ko131 : St → Int32 → Option (St × Unit)} (K : Kp Q G) (g_h0 : G h0) (hko_ko131 : ∀ (w0 : St) (w1 : Int32), Q w0 → LkP Q (ko131 w0 w1)) : ∀ (f : Nat) (v1 : St) (v2 : Int32), Q v1 → LkP Q (fn_X16_lookAll_L188 F sh n h0 p_14 v_39 ko131 f v1 v2) := by
  intro f
  induction f with
  | zero => intros; exact LkP.none
  | succ f_45 ih =>
    intro z_44 p_43 h_z_44
    exact (LkP.xl (fun k_46 q => have g_k_46 := K.2.2.2.2.2 _ _ _ _ h_z_44 g_h0 q; (LkP.xg (LkP.ite (lkp_fn_X16_lookAll_B239 K h_z_44 (fun z9 q1 hk_z9 => (hko_ko131 _ _ hk_z9 ))) (LkP.xc (lkp_fn_X16_isGood K h_z_44 g_h0) (fun z_50 r_51 h_z_50 => (LkP.ite (lkp_fn_X16_lookAll_B239 K h_z_50 (fun z9 q1 hk_z9 => (hko_ko131 _ _ hk_z9 ))) (LkP.xl (fun k_54 q => have g_k_54 := K.2.2.2.2.2 _ _ _ _ h_z_50 g_h0 q; (LkP.xg (LkP.xl (fun k_56 q => have g_k_56 := K.2.2.2.2.2 _ _ _ _ h_z_50 g_h0 q; (LkP.xg (LkP.xl (fun k_58 q => have g_k_58 := K.2.2.2.2.2 _ _ _ _ h_z_50 g_h0 q; (LkP.xg (LkP.xc (lkp_fn_X16_lookInstruction K h_z_50 g_h0) (fun z_60 _ h_z_60 => (ih _ _ h_z_60 )))))))))))))))))))
theorem lkp_fn_X16_lookAll_L131 {F : Nat} {sh : Nat → Nat × Nat} {n : Nat} {h0 : Nat} (K : Kp Q G) (g_h0 : G h0) : ∀ (f : Nat) (v1 : St) (v2 : Int32), Q v1 → LkP Q (fn_X16_lookAll_L131 F sh n h0 f v1 v2) := by
  intro f
  induction f with
  | zero => intros; exact LkP.none
  | succ f_16 ih =>
    intro z_15 p_14 h_z_15
    exact (LkP.ite (LkP.ret h_z_15) (LkP.xc (lkp_fn_X16_isGood K h_z_15 g_h0) (fun z_18 r_19 h_z_18 => (LkP.ite (LkP.ret h_z_18) (LkP.xl (fun k_22 q => have g_k_22 := K.2.2.2.2.2 _ _ _ _ h_z_18 g_h0 q; (LkP.xg (LkP.xc (lkp_fn_X16_lookList K h_z_18 g_h0) (fun z_24 r_25 h_z_24 => (LkP.xc (lkp_fn_X16_lookList K h_z_24 g_h0) (fun z_27 r_28 h_z_27 => (LkP.xc (lkp_fn_X16_lookList K h_z_27 g_h0) (fun z_30 r_31 h_z_30 => (LkP.xc (lkp_fn_X16_manyIn K h_z_30 g_h0) (fun z_33 r_34 h_z_33 => (LkP.xc (lkp_fn_X16_manyIn K h_z_33 g_h0) (fun z_36 r_37 h_z_36 => (LkP.ltv (fun v_39 => (LkP.xl (fun k_40 q => have g_k_40 := K.2.2.2.2.2 _ _ _ _ h_z_36 g_h0 q; (LkP.xg (LkP.ltv (fun v_42 => (lkp_fn_X16_lookAll_L188 K g_h0 (fun z9 q1 hk_z9 => (ih _ _ hk_z9 )) _ _ _ h_z_36 )))))))))))))))))))))))))
theorem lkp_fn_X16_lookAll_B129 {F : Nat} {sh : Nat → Nat × Nat} {n : Nat} {h0 : Nat} {z_13 : St} (K : Kp Q G) (h_z_13 : Q z_13) (g_h0 : G h0) : LkP Q (fn_X16_lookAll_B129 F sh n h0 z_13) := by
  unfold fn_X16_lookAll_B129
  exact (lkp_fn_X16_lookAll_L131 K g_h0 _ _ _ h_z_13 )
theorem lkp_fn_X16_lookAll_L97 {F : Nat} {sh : Nat → Nat × Nat} {n : Nat} {h0 : Nat} (K : Kp Q G) (g_h0 : G h0) : ∀ (f : Nat) (v1 : St) (v2 : Int32), Q v1 → LkP Q (fn_X16_lookAll_L97 F sh n h0 f v1 v2) := by
  intro f
  induction f with
  | zero => intros; exact LkP.none
  | succ f_12 ih =>
    intro z_11 p_10 h_z_11
    exact (LkP.ite (lkp_fn_X16_lookAll_B129 K h_z_11 g_h0) (LkP.xc (lkp_fn_X16_isGood K h_z_11 g_h0) (fun z_63 r_64 h_z_63 => (LkP.ite (lkp_fn_X16_lookAll_B129 K h_z_63 g_h0) (LkP.xl (fun k_67 q => have g_k_67 := K.2.2.2.2.2 _ _ _ _ h_z_63 g_h0 q; (LkP.xg (LkP.xc (lkp_fn_X16_lookType K h_z_63 g_h0) (fun z_69 r_70 h_z_69 => (ih _ _ h_z_69 ))))))))))
theorem lkp_fn_X16_lookAll_B95 {F : Nat} {sh : Nat → Nat × Nat} {n : Nat} {h0 : Nat} {z_9 : St} (K : Kp Q G) (h_z_9 : Q z_9) (g_h0 : G h0) : LkP Q (fn_X16_lookAll_B95 F sh n h0 z_9) := by
  unfold fn_X16_lookAll_B95
  exact (lkp_fn_X16_lookAll_L97 K g_h0 _ _ _ h_z_9 )
theorem lkp_fn_X16_lookAll_L57 {F : Nat} {sh : Nat → Nat × Nat} {n : Nat} {h0 : Nat} (K : Kp Q G) (g_h0 : G h0) : ∀ (f : Nat) (v1 : St) (v2 : Int32), Q v1 → LkP Q (fn_X16_lookAll_L57 F sh n h0 f v1 v2) := by
  intro f
  induction f with
  | zero => intros; exact LkP.none
  | succ f_8 ih =>
    intro z_7 p_6 h_z_7
    exact (LkP.ite (lkp_fn_X16_lookAll_B95 K h_z_7 g_h0) (LkP.xc (lkp_fn_X16_isGood K h_z_7 g_h0) (fun z_73 r_74 h_z_73 => (LkP.ite (lkp_fn_X16_lookAll_B95 K h_z_73 g_h0) (LkP.xl (fun k_77 q => have g_k_77 := K.2.2.2.2.2 _ _ _ _ h_z_73 g_h0 q; (LkP.xg (LkP.xc (lkp_fn_X16_lookList K h_z_73 g_h0) (fun z_79 r_80 h_z_79 => (LkP.xc (lkp_fn_X16_lookList K h_z_79 g_h0) (fun z_82 r_83 h_z_82 => (ih _ _ h_z_82 ))))))))))))
theorem lkp_fn_X16_lookAll_B55 {F : Nat} {sh : Nat → Nat × Nat} {n : Nat} {h0 : Nat} {z_5 : St} (K : Kp Q G) (h_z_5 : Q z_5) (g_h0 : G h0) : LkP Q (fn_X16_lookAll_B55 F sh n h0 z_5) := by
  unfold fn_X16_lookAll_B55
  exact (lkp_fn_X16_lookAll_L57 K g_h0 _ _ _ h_z_5 )
theorem lkp_fn_X16_lookAll_L28 {F : Nat} {sh : Nat → Nat × Nat} {n : Nat} {h0 : Nat} {p_1 : Int32} {ko2 : St → Int32 → Option (St × Unit)} (K : Kp Q G) (g_h0 : G h0) (hko_ko2 : ∀ (w0 : St) (w1 : Int32), Q w0 → LkP Q (ko2 w0 w1)) : ∀ (f : Nat) (v1 : St) (v2 : Int32) (v3 : Int32), Q v1 → LkP Q (fn_X16_lookAll_L28 F sh n h0 p_1 ko2 f v1 v2 v3) := by
  intro f
  induction f with
  | zero => intros; exact LkP.none
  | succ f_96 ih =>
    intro z_95 p_93 p_94 h_z_95
    exact (LkP.xc (lkp_fn_X16_fieldsOf K h_z_95 g_h0) (fun z_97 r_98 h_z_97 => (LkP.ite (hko_ko2 _ _ h_z_97 ) (LkP.xc (lkp_fn_X16_lookType K h_z_97 g_h0) (fun z_101 r_102 h_z_101 => (ih _ _ _ h_z_101 ))))))
theorem lkp_fn_X16_lookAll_L2 {F : Nat} {sh : Nat → Nat × Nat} {n : Nat} {h0 : Nat} (K : Kp Q G) (g_h0 : G h0) : ∀ (f : Nat) (v1 : St) (v2 : Int32), Q v1 → LkP Q (fn_X16_lookAll_L2 F sh n h0 f v1 v2) := by
  intro f
  induction f with
  | zero => intros; exact LkP.none
  | succ f_3 ih =>
    intro z_2 p_1 h_z_2
    exact (LkP.xg (LkP.ite (lkp_fn_X16_lookAll_B55 K h_z_2 g_h0) (LkP.xc (lkp_fn_X16_isGood K h_z_2 g_h0) (fun z_86 r_87 h_z_86 => (LkP.ite (lkp_fn_X16_lookAll_B55 K h_z_86 g_h0) (LkP.xl (fun k_90 q => have g_k_90 := K.2.2.2.2.2 _ _ _ _ h_z_86 g_h0 q; (LkP.xg (LkP.ltv (fun v_92 => (lkp_fn_X16_lookAll_L28 K g_h0 (fun z9 q1 hk_z9 => (ih _ _ hk_z9 )) _ _ _ _ h_z_86 )))))))))))
theorem lkp_fn_X16_lookAll {F : Nat} {sh : Nat → Nat × Nat} {n : Nat} {z : St} {h0 : Nat} (K : Kp Q G) (h_z : Q z) (g_h0 : G h0) : LkP Q (fn_X16_lookAll F sh n z h0) := by
  unfold fn_X16_lookAll
  exact (lkp_fn_X16_lookAll_L2 K g_h0 _ _ _ h_z )
theorem lkp_fn_X4_step_B41 {F : Nat} {sh : Nat → Nat × Nat} {n : Nat} {h0 : Nat} {z_8 : St} (K : Kp Q G) (h_z_8 : Q z_8) (g_h0 : G h0) : LkP Q (fn_X4_step_B41 F sh n h0 z_8) := by
  unfold fn_X4_step_B41
  exact (LkP.xl (fun k_9 q => have g_k_9 := K.2.2.2.2.2 _ _ _ _ h_z_8 g_h0 q; (LkP.xg (LkP.lts (K.1 _ _ _ _ h_z_8 g_k_9) (fun z_12 h_z_12 => (LkP.xc (lkp_fn_X4_end K h_z_12 g_h0) (fun z_13 _ h_z_13 => (LkP.ret h_z_13))))))))
theorem lkp_fn_X4_step_B128 {F : Nat} {sh : Nat → Nat × Nat} {n : Nat} {k_4 : Nat} {r_25 : Int32} {h0 : Nat} {r_28 : Int32} {z_41 : St} (K : Kp Q G) (h_z_41 : Q z_41) (g_k_4 : G k_4) (g_h0 : G h0) : LkP Q (fn_X4_step_B128 F sh n k_4 r_25 h0 r_28 z_41) := by
  unfold fn_X4_step_B128
  exact (LkP.xc (lkp_fn_X5_numberAt K h_z_41 g_k_4) (fun z_42 r_43 h_z_42 => (LkP.xc (lkp_fn_X4_steer K h_z_42 g_h0) (fun z_45 _ h_z_45 => (LkP.ret h_z_45)))))
theorem lkp_fn_X4_step_B167 {F : Nat} {sh : Nat → Nat × Nat} {n : Nat} {h0 : Nat} {r_28 : Int32} {k_4 : Nat} {r_25 : Int32} {z_49 : St} (K : Kp Q G) (h_z_49 : Q z_49) (g_h0 : G h0) (g_k_4 : G k_4) : LkP Q (fn_X4_step_B167 F sh n h0 r_28 k_4 r_25 z_49) := by
  unfold fn_X4_step_B167
  exact (LkP.xc (lkp_fn_X4_set K h_z_49 g_h0 g_k_4) (fun z_50 _ h_z_50 => (LkP.ret h_z_50)))
theorem lkp_fn_X4_step {F : Nat} {sh : Nat → Nat × Nat} {n : Nat} {z : St} {h0 : Nat} (K : Kp Q G) (h_z : Q z) (g_h0 : G h0) : LkP Q (fn_X4_step F sh n z h0) := by
  unfold fn_X4_step
  exact (LkP.xg (LkP.xl (fun k_2 q => have g_k_2 := K.2.2.2.2.2 _ _ _ _ h_z g_h0 q; (LkP.xg (LkP.xl (fun k_4 q => have g_k_4 := K.2.2.2.2.2 _ _ _ _ h_z g_k_2 q; (LkP.xl (fun k_5 q => have g_k_5 := K.2.2.2.2.2 _ _ _ _ h_z g_h0 q; (LkP.xg (LkP.ltv (fun v_7 => (LkP.xl (fun k_15 q => have g_k_15 := K.2.2.2.2.2 _ _ _ _ h_z g_h0 q; (LkP.xg (LkP.xg (LkP.xc (lkp_fn_X5_instructions K h_z g_k_4) (fun z_17 r_18 h_z_17 => (LkP.ite (LkP.xl (fun k_22 q => have g_k_22 := K.2.2.2.2.2 _ _ _ _ h_z_17 g_h0 q; (LkP.xg (LkP.xc (lkp_fn_X5_instructionPlace K h_z_17 g_k_4) (fun z_24 r_25 h_z_24 => (LkP.xc (lkp_fn_X5_at K h_z_24 g_k_4) (fun z_27 r_28 h_z_27 => (LkP.xc (lkp_fn_X5_at K h_z_27 g_k_4) (fun z_30 r_31 h_z_30 => (LkP.xl (fun k_33 q => have g_k_33 := K.2.2.2.2.2 _ _ _ _ h_z_30 g_h0 q; (LkP.xg (LkP.lts (K.1 _ _ _ _ h_z_30 g_k_33) (fun z_36 h_z_36 => (LkP.xc (lkp_fn_X4_pay K h_z_36 g_h0) (fun z_37 r_38 h_z_37 => (LkP.ite (LkP.ret h_z_37) (LkP.ite (lkp_fn_X4_step_B128 K h_z_37 g_k_4 g_h0) (LkP.ite (lkp_fn_X4_step_B128 K h_z_37 g_k_4 g_h0) (LkP.ite (lkp_fn_X4_step_B167 K h_z_37 g_h0 g_k_4) (LkP.ite (lkp_fn_X4_step_B167 K h_z_37 g_h0 g_k_4) (LkP.ite (lkp_fn_X4_step_B167 K h_z_37 g_h0 g_k_4) (LkP.ite (LkP.ite (LkP.ite (LkP.xc (lkp_fn_X5_fieldCount K h_z_37 g_k_4) (fun z_90 r_91 h_z_90 => (LkP.xc (lkp_fn_X4_gather K h_z_90 g_h0) (fun z_93 _ h_z_93 => (LkP.ret h_z_93))))) (LkP.ite (LkP.xc (lkp_fn_X5_fieldCount K h_z_37 g_k_4) (fun z_85 r_86 h_z_85 => (LkP.xc (lkp_fn_X4_scatter K h_z_85 g_h0) (fun z_88 _ h_z_88 => (LkP.ret h_z_88))))) (LkP.ite (LkP.xc (lkp_fn_X5_functionColumn K h_z_37 g_k_4) (fun z_74 r_75 h_z_74 => (LkP.xc (lkp_fn_X5_functionColumn K h_z_74 g_k_4) (fun z_77 r_78 h_z_77 => (LkP.ite (LkP.xc (lkp_fn_X4_useCoin K h_z_77 g_h0) (fun z_83 _ h_z_83 => (LkP.ret h_z_83))) (LkP.xc (lkp_fn_X4_enter K h_z_77 g_h0) (fun z_81 _ h_z_81 => (LkP.ret h_z_81)))))))) (LkP.ite (LkP.ite (LkP.ite (LkP.xc (lkp_fn_X4_hash K h_z_37 g_h0) (fun z_68 _ h_z_68 => (LkP.ret h_z_68))) (LkP.xc (lkp_fn_X5_at K h_z_37 g_k_4) (fun z_63 r_64 h_z_63 => (LkP.xc (lkp_fn_X4_lineUp K h_z_63 g_h0) (fun z_66 _ h_z_66 => (LkP.ret h_z_66)))))) (LkP.xc (lkp_fn_X4_keep K h_z_37 g_h0) (fun z_70 _ h_z_70 => (LkP.ret h_z_70)))) (LkP.xc (lkp_fn_X4_reckon K h_z_37 g_h0) (fun z_72 _ h_z_72 => (LkP.ret h_z_72))))))) (LkP.xc (lkp_fn_X5_at K h_z_37 g_k_4) (fun z_95 r_96 h_z_95 => (LkP.xc (lkp_fn_X4_refer K h_z_95 g_h0) (fun z_98 _ h_z_98 => (LkP.ret h_z_98)))))) (LkP.ltv (fun v_100 => (LkP.xc (lkp_fn_X4_useLocal K h_z_37 g_h0) (fun z_101 _ h_z_101 => (LkP.ret h_z_101)))))))))))))))))))))))))))) (lkp_fn_X4_step_B41 K h_z_17 g_h0)))))))))))))))))))
theorem lkp_fn_X18_onVector_B371 {F : Nat} {sh : Nat → Nat × Nat} {n : Nat} {r_26 : Int32} {h0 : Nat} {x0 : Int32} {z_30 : St} {p_29 : Int32} (K : Kp Q G) (h_z_30 : Q z_30) (g_h0 : G h0) : LkP Q (fn_X18_onVector_B371 F sh n r_26 h0 x0 z_30 p_29) := by
  unfold fn_X18_onVector_B371
  exact (LkP.ite (LkP.xc (lkp_fn_X18_end K h_z_30 g_h0) (fun z_32 _ h_z_32 => (LkP.ret h_z_32))) (LkP.ite (LkP.xc (lkp_fn_X18_end K h_z_30 g_h0) (fun z_42 _ h_z_42 => (LkP.ret h_z_42))) (LkP.ite (LkP.xl (fun k_38 q => have g_k_38 := K.2.2.2.2.2 _ _ _ _ h_z_30 g_h0 q; (LkP.xg (LkP.xc (lkp_fn_X15_swap K h_z_30 g_k_38) (fun z_39 _ h_z_39 => (LkP.ret h_z_39)))))) (LkP.xc (lkp_fn_X18_push K h_z_30 g_h0) (fun z_36 _ h_z_36 => (LkP.ret h_z_36))))))
theorem lkp_fn_X18_onVector_B210 {F : Nat} {sh : Nat → Nat × Nat} {n : Nat} {h0 : Nat} {x0 : Int32} {r_10 : Int32} {p_7 : Int32} {p_3 : Int64} {p_5 : Int64} {z_16 : St} (K : Kp Q G) (h_z_16 : Q z_16) (g_h0 : G h0) : LkP Q (fn_X18_onVector_B210 F sh n h0 x0 r_10 p_7 p_3 p_5 z_16) := by
  unfold fn_X18_onVector_B210
  exact (LkP.xc (lkp_fn_X18_goesOn K h_z_16 g_h0) (fun z_17 r_18 h_z_17 => (LkP.ite (LkP.ret h_z_17) (LkP.ite (LkP.xl (fun k_76 q => have g_k_76 := K.2.2.2.2.2 _ _ _ _ h_z_17 g_h0 q; (LkP.xg (LkP.xc (lkp_fn_X15_count K h_z_17 g_k_76) (fun z_77 r_78 h_z_77 => (LkP.xc (lkp_fn_X18_make K h_z_77 g_h0) (fun z_81 _ h_z_81 => (LkP.ret h_z_81)))))))) (LkP.ite (LkP.xl (fun k_64 q => have g_k_64 := K.2.2.2.2.2 _ _ _ _ h_z_17 g_h0 q; (LkP.xg (LkP.xc (lkp_fn_X15_count K h_z_17 g_k_64) (fun z_65 r_66 h_z_65 => (LkP.ite (LkP.xc (lkp_fn_X18_end K h_z_65 g_h0) (fun z_74 _ h_z_74 => (LkP.ret h_z_74))) (LkP.xl (fun k_70 q => have g_k_70 := K.2.2.2.2.2 _ _ _ _ h_z_65 g_h0 q; (LkP.xg (LkP.xc (lkp_fn_X15_add K h_z_65 g_k_70) (fun z_71 _ h_z_71 => (LkP.ret h_z_71)))))))))))) (LkP.ite (LkP.xl (fun k_50 q => have g_k_50 := K.2.2.2.2.2 _ _ _ _ h_z_17 g_h0 q; (LkP.xg (LkP.xl (fun k_52 q => have g_k_52 := K.2.2.2.2.2 _ _ _ _ h_z_17 g_k_50 q; (LkP.xg (LkP.ite (LkP.xc (lkp_fn_X18_end K h_z_17 g_h0) (fun z_62 _ h_z_62 => (LkP.ret h_z_62))) (LkP.xl (fun k_55 q => have g_k_55 := K.2.2.2.2.2 _ _ _ _ h_z_17 g_h0 q; (LkP.xg (LkP.xc (lkp_fn_X15_takeLast K h_z_17 g_k_55) (fun z_56 r_57 h_z_56 => (LkP.xc (lkp_fn_X18_push K h_z_56 g_h0) (fun z_60 _ h_z_60 => (LkP.ret h_z_60))))))))))))))) (LkP.xl (fun k_24 q => have g_k_24 := K.2.2.2.2.2 _ _ _ _ h_z_17 g_h0 q; (LkP.xg (LkP.xc (lkp_fn_X15_part K h_z_17 g_k_24) (fun z_25 r_26 h_z_25 => (LkP.ite (LkP.xl (fun k_45 q => have g_k_45 := K.2.2.2.2.2 _ _ _ _ h_z_25 g_h0 q; (LkP.xg (LkP.xc (lkp_fn_X15_part K h_z_25 g_k_45) (fun z_46 r_47 h_z_46 => (lkp_fn_X18_onVector_B371 K h_z_46 g_h0)))))) (lkp_fn_X18_onVector_B371 K h_z_25 g_h0)))))))))))))
theorem lkp_fn_X18_onVector_B175 {F : Nat} {sh : Nat → Nat × Nat} {n : Nat} {h0 : Nat} {x0 : Int32} {p_3 : Int64} {p_5 : Int64} {z_8 : St} {p_7 : Int32} (K : Kp Q G) (h_z_8 : Q z_8) (g_h0 : G h0) : LkP Q (fn_X18_onVector_B175 F sh n h0 x0 p_3 p_5 z_8 p_7) := by
  unfold fn_X18_onVector_B175
  exact (LkP.xg (LkP.xc (lkp_fn_X18_takeAny K h_z_8 g_h0) (fun z_9 r_10 h_z_9 => (LkP.xc (lkp_fn_X18_goesOn K h_z_9 g_h0) (fun z_13 r_14 h_z_13 => (LkP.ite (lkp_fn_X18_onVector_B210 K h_z_13 g_h0) (LkP.xl (fun k_84 q => have g_k_84 := K.2.2.2.2.2 _ _ _ _ h_z_13 g_h0 q; (LkP.xg (LkP.xl (fun k_86 q => have g_k_86 := K.2.2.2.2.2 _ _ _ _ h_z_13 g_k_84 q; (LkP.xg (LkP.ite (lkp_fn_X18_onVector_B210 K h_z_13 g_h0) (LkP.xc (lkp_fn_X18_slip K h_z_13 g_h0) (fun z_89 _ h_z_89 => (lkp_fn_X18_onVector_B210 K h_z_89 g_h0))))))))))))))))
theorem lkp_fn_X18_onVector_B158 {F : Nat} {sh : Nat → Nat × Nat} {n : Nat} {x0 : Int32} {h0 : Nat} {p_3 : Int64} {z_6 : St} {p_5 : Int64} (K : Kp Q G) (h_z_6 : Q z_6) (g_h0 : G h0) : LkP Q (fn_X18_onVector_B158 F sh n x0 h0 p_3 z_6 p_5) := by
  unfold fn_X18_onVector_B158
  exact (LkP.ite (LkP.xg (LkP.xc (lkp_fn_X18_takeAny K h_z_6 g_h0) (fun z_92 r_93 h_z_92 => (lkp_fn_X18_onVector_B175 K h_z_92 g_h0)))) (lkp_fn_X18_onVector_B175 K h_z_6 g_h0))
theorem lkp_fn_X18_onVector_B143 {F : Nat} {sh : Nat → Nat × Nat} {n : Nat} {x0 : Int32} {h0 : Nat} {z_4 : St} {p_3 : Int64} (K : Kp Q G) (h_z_4 : Q z_4) (g_h0 : G h0) : LkP Q (fn_X18_onVector_B143 F sh n x0 h0 z_4 p_3) := by
  unfold fn_X18_onVector_B143
  exact (LkP.ite (LkP.xg (LkP.xc (lkp_fn_X18_takeLong K h_z_4 g_h0) (fun z_97 r_98 h_z_97 => (lkp_fn_X18_onVector_B158 K h_z_97 g_h0)))) (lkp_fn_X18_onVector_B158 K h_z_4 g_h0))
theorem lkp_fn_X18_onVector_B135 {F : Nat} {sh : Nat → Nat × Nat} {n : Nat} {h0 : Nat} {x0 : Int32} {z_101 : St} (K : Kp Q G) (h_z_101 : Q z_101) (g_h0 : G h0) : LkP Q (fn_X18_onVector_B135 F sh n h0 x0 z_101) := by
  unfold fn_X18_onVector_B135
  exact (LkP.xg (LkP.xc (lkp_fn_X18_takeLong K h_z_101 g_h0) (fun z_102 r_103 h_z_102 => (lkp_fn_X18_onVector_B143 K h_z_102 g_h0))))
theorem lkp_fn_X18_onVector_L59 {F : Nat} {sh : Nat → Nat × Nat} {n : Nat} {h0 : Nat} {x1 : Int32} {r_122 : Int32} (K : Kp Q G) (g_h0 : G h0) : ∀ (f : Nat) (v1 : St) (v2 : Int32), Q v1 → LkP Q (fn_X18_onVector_L59 F sh n h0 x1 r_122 f v1 v2) := by
  intro f
  induction f with
  | zero => intros; exact LkP.none
  | succ f_128 ih =>
    intro z_127 p_126 h_z_127
    exact (LkP.ite (LkP.lts (K.1 _ _ _ _ h_z_127 g_h0) (fun z_131 h_z_131 => (LkP.xc (lkp_fn_X18_push K h_z_131 g_h0) (fun z_132 _ h_z_132 => (LkP.ret h_z_132))))) (LkP.xl (fun k_134 q => have g_k_134 := K.2.2.2.2.2 _ _ _ _ h_z_127 g_h0 q; (LkP.xl (fun k_135 q => have g_k_135 := K.2.2.2.2.2 _ _ _ _ h_z_127 g_h0 q; (LkP.xg (LkP.xg (LkP.xc (lkp_fn_X15_add K h_z_127 g_k_134) (fun z_137 _ h_z_137 => (ih _ _ h_z_137 ))))))))))
theorem lkp_fn_X18_onVector_B30 {F : Nat} {sh : Nat → Nat × Nat} {n : Nat} {h0 : Nat} {x1 : Int32} {z_115 : St} (K : Kp Q G) (h_z_115 : Q z_115) (g_h0 : G h0) : LkP Q (fn_X18_onVector_B30 F sh n h0 x1 z_115) := by
  unfold fn_X18_onVector_B30
  exact (LkP.xc (lkp_fn_X18_spend K h_z_115 g_h0) (fun z_116 r_117 h_z_116 => (LkP.ite (LkP.ret h_z_116) (LkP.xl (fun k_120 q => have g_k_120 := K.2.2.2.2.2 _ _ _ _ h_z_116 g_h0 q; (LkP.xg (LkP.xc (lkp_fn_X15_make K h_z_116 g_k_120) (fun z_121 r_122 h_z_121 => (LkP.ltv (fun v_125 => (lkp_fn_X18_onVector_L59 K g_h0 _ _ _ h_z_121 )))))))))))
theorem lkp_fn_X18_onVector {F : Nat} {sh : Nat → Nat × Nat} {n : Nat} {z : St} {h0 : Nat} {x0 : Int32} {x1 : Int32} (K : Kp Q G) (h_z : Q z) (g_h0 : G h0) : LkP Q (fn_X18_onVector F sh n z h0 x0 x1) := by
  unfold fn_X18_onVector
  exact (LkP.ite (LkP.xg (LkP.xl (fun k_113 q => have g_k_113 := K.2.2.2.2.2 _ _ _ _ h_z g_h0 q; (LkP.xg (LkP.ite (lkp_fn_X18_onVector_B30 K h_z g_h0) (LkP.xc (lkp_fn_X18_slip K h_z g_h0) (fun z_141 _ h_z_141 => (lkp_fn_X18_onVector_B30 K h_z_141 g_h0)))))))) (LkP.ite (LkP.xg (LkP.xc (lkp_fn_X18_digest K h_z g_h0) (fun z_109 _ h_z_109 => (LkP.ret h_z_109)))) (LkP.ite (lkp_fn_X18_onVector_B135 K h_z g_h0) (LkP.ite (lkp_fn_X18_onVector_B135 K h_z g_h0) (LkP.ite (lkp_fn_X18_onVector_B135 K h_z g_h0) (lkp_fn_X18_onVector_B143 K h_z g_h0))))))
theorem lkp_fn_X18_coin_B381 {F : Nat} {sh : Nat → Nat × Nat} {n : Nat} {h0 : Nat} {z_14 : St} {p_13 : Int32} (K : Kp Q G) (h_z_14 : Q z_14) (g_h0 : G h0) : LkP Q (fn_X18_coin_B381 F sh n h0 z_14 p_13) := by
  unfold fn_X18_coin_B381
  exact (LkP.ite (LkP.ret h_z_14) (LkP.xc (lkp_fn_X18_spend K h_z_14 g_h0) (fun z_16 r_17 h_z_16 => (LkP.ite (LkP.ret h_z_16) (LkP.xl (fun k_20 q => have g_k_20 := K.2.2.2.2.2 _ _ _ _ h_z_16 g_h0 q; (LkP.xg (LkP.xc (lkp_fn_X18_make K h_z_16 g_h0) (fun z_22 _ h_z_22 => (LkP.ret h_z_22))))))))))
theorem lkp_fn_X18_coin_B100 {F : Nat} {sh : Nat → Nat × Nat} {n : Nat} {h0 : Nat} {r_110 : Int32} {z_120 : St} {p_119 : Int32} (K : Kp Q G) (h_z_120 : Q z_120) (g_h0 : G h0) : LkP Q (fn_X18_coin_B100 F sh n h0 r_110 z_120 p_119) := by
  unfold fn_X18_coin_B100
  exact (LkP.ite (LkP.ret h_z_120) (LkP.xc (lkp_fn_X18_spend K h_z_120 g_h0) (fun z_122 r_123 h_z_122 => (LkP.ite (LkP.ret h_z_122) (LkP.xl (fun k_126 q => have g_k_126 := K.2.2.2.2.2 _ _ _ _ h_z_122 g_h0 q; (LkP.xg (LkP.xl (fun k_128 q => have g_k_128 := K.2.2.2.2.2 _ _ _ _ h_z_122 g_h0 q; (LkP.xg (LkP.xl (fun k_130 q => have g_k_130 := K.2.2.2.2.2 _ _ _ _ h_z_122 g_k_128 q; (LkP.xl (fun k_131 q => have g_k_131 := K.2.2.2.2.2 _ _ _ _ h_z_122 g_h0 q; (LkP.xg (LkP.xl (fun k_133 q => have g_k_133 := K.2.2.2.2.2 _ _ _ _ h_z_122 g_k_131 q; (LkP.xg (LkP.xg (LkP.xg (LkP.lts (K.2.1 _ _ _ _ h_z_122 g_k_126) (fun z_138 h_z_138 => (LkP.xl (fun k_139 q => have g_k_139 := K.2.2.2.2.2 _ _ _ _ h_z_138 g_h0 q; (LkP.xg (LkP.lts (K.1 _ _ _ _ h_z_138 g_k_139) (fun z_142 h_z_142 => (LkP.ret h_z_142))))))))))))))))))))))))))))
theorem lkp_fn_X18_coin {F : Nat} {sh : Nat → Nat × Nat} {n : Nat} {z : St} {h0 : Nat} {x0 : Int32} (K : Kp Q G) (h_z : Q z) (g_h0 : G h0) : LkP Q (fn_X18_coin F sh n z h0 x0) := by
  unfold fn_X18_coin
  exact (LkP.ite (LkP.xg (LkP.xc (lkp_fn_X18_takeLong K h_z g_h0) (fun z_151 r_152 h_z_151 => (LkP.xc (lkp_fn_X18_spend K h_z_151 g_h0) (fun z_155 r_156 h_z_155 => (LkP.ite (LkP.ret h_z_155) (LkP.xl (fun k_159 q => have g_k_159 := K.2.2.2.2.2 _ _ _ _ h_z_155 g_h0 q; (LkP.xg (LkP.xc (lkp_fn_X18_isBelow K h_z_155) (fun z_161 r_162 h_z_161 => (LkP.ite (LkP.xl (fun k_165 q => have g_k_165 := K.2.2.2.2.2 _ _ _ _ h_z_161 g_h0 q; (LkP.xg (LkP.xg (LkP.lts (K.2.1 _ _ _ _ h_z_161 g_k_165) (fun z_169 h_z_169 => (LkP.xc (lkp_fn_X18_makeCoin K h_z_169 g_h0) (fun z_170 _ h_z_170 => (LkP.ret h_z_170))))))))) (LkP.xc (lkp_fn_X18_end K h_z_161 g_h0) (fun z_172 _ h_z_172 => (LkP.ret h_z_172))))))))))))))) (LkP.ite (LkP.xg (LkP.xc (lkp_fn_X18_take K h_z g_h0) (fun z_109 r_110 h_z_109 => (LkP.xc (lkp_fn_X18_take K h_z_109 g_h0) (fun z_113 r_114 h_z_113 => (LkP.xc (lkp_fn_X18_goesOn K h_z_113 g_h0) (fun z_116 r_117 h_z_116 => (LkP.ite (lkp_fn_X18_coin_B100 K h_z_116 g_h0) (LkP.xl (fun k_144 q => have g_k_144 := K.2.2.2.2.2 _ _ _ _ h_z_116 g_h0 q; (LkP.xg (LkP.xl (fun k_146 q => have g_k_146 := K.2.2.2.2.2 _ _ _ _ h_z_116 g_k_144 q; (LkP.xg (LkP.xc (lkp_fn_X18_ask K h_z_116 g_h0) (fun z_148 r_149 h_z_148 => (lkp_fn_X18_coin_B100 K h_z_148 g_h0))))))))))))))))) (LkP.ite (LkP.xg (LkP.xc (lkp_fn_X18_takeAny K h_z g_h0) (fun z_91 r_92 h_z_91 => (LkP.xc (lkp_fn_X18_spend K h_z_91 g_h0) (fun z_95 r_96 h_z_95 => (LkP.ite (LkP.ret h_z_95) (LkP.xl (fun k_99 q => have g_k_99 := K.2.2.2.2.2 _ _ _ _ h_z_95 g_h0 q; (LkP.xg (LkP.xl (fun k_101 q => have g_k_101 := K.2.2.2.2.2 _ _ _ _ h_z_95 g_k_99 q; (LkP.xl (fun k_102 q => have g_k_102 := K.2.2.2.2.2 _ _ _ _ h_z_95 g_h0 q; (LkP.xg (LkP.xl (fun k_104 q => have g_k_104 := K.2.2.2.2.2 _ _ _ _ h_z_95 g_k_102 q; (LkP.xg (LkP.xg (LkP.xc (lkp_fn_X18_make K h_z_95 g_h0) (fun z_107 _ h_z_107 => (LkP.ret h_z_107))))))))))))))))))))) (LkP.ite (LkP.xg (LkP.xc (lkp_fn_X18_take K h_z g_h0) (fun z_62 r_63 h_z_62 => (LkP.xc (lkp_fn_X18_take K h_z_62 g_h0) (fun z_66 r_67 h_z_66 => (LkP.xc (lkp_fn_X18_spend K h_z_66 g_h0) (fun z_69 r_70 h_z_69 => (LkP.ite (LkP.ret h_z_69) (LkP.xl (fun k_73 q => have g_k_73 := K.2.2.2.2.2 _ _ _ _ h_z_69 g_h0 q; (LkP.xg (LkP.xl (fun k_75 q => have g_k_75 := K.2.2.2.2.2 _ _ _ _ h_z_69 g_k_73 q; (LkP.xl (fun k_76 q => have g_k_76 := K.2.2.2.2.2 _ _ _ _ h_z_69 g_h0 q; (LkP.xg (LkP.xl (fun k_78 q => have g_k_78 := K.2.2.2.2.2 _ _ _ _ h_z_69 g_k_76 q; (LkP.xg (LkP.xg (LkP.xl (fun k_81 q => have g_k_81 := K.2.2.2.2.2 _ _ _ _ h_z_69 g_h0 q; (LkP.xg (LkP.xl (fun k_83 q => have g_k_83 := K.2.2.2.2.2 _ _ _ _ h_z_69 g_k_81 q; (LkP.xl (fun k_84 q => have g_k_84 := K.2.2.2.2.2 _ _ _ _ h_z_69 g_h0 q; (LkP.xg (LkP.xl (fun k_86 q => have g_k_86 := K.2.2.2.2.2 _ _ _ _ h_z_69 g_k_84 q; (LkP.xg (LkP.xg (LkP.xc (lkp_fn_X18_makeCoin K h_z_69 g_h0) (fun z_89 _ h_z_89 => (LkP.ret h_z_89))))))))))))))))))))))))))))))))))) (LkP.ite (LkP.xg (LkP.xc (lkp_fn_X18_takeLong K h_z g_h0) (fun z_32 r_33 h_z_32 => (LkP.xc (lkp_fn_X18_take K h_z_32 g_h0) (fun z_36 r_37 h_z_36 => (LkP.xc (lkp_fn_X18_spend K h_z_36 g_h0) (fun z_39 r_40 h_z_39 => (LkP.ite (LkP.ret h_z_39) (LkP.xl (fun k_43 q => have g_k_43 := K.2.2.2.2.2 _ _ _ _ h_z_39 g_h0 q; (LkP.xg (LkP.xl (fun k_45 q => have g_k_45 := K.2.2.2.2.2 _ _ _ _ h_z_39 g_k_43 q; (LkP.xl (fun k_46 q => have g_k_46 := K.2.2.2.2.2 _ _ _ _ h_z_39 g_h0 q; (LkP.xg (LkP.xl (fun k_48 q => have g_k_48 := K.2.2.2.2.2 _ _ _ _ h_z_39 g_k_46 q; (LkP.xg (LkP.xg (LkP.ltv (fun v_51 => (LkP.xc (lkp_fn_X18_isBelow K h_z_39) (fun z_52 r_53 h_z_52 => (LkP.ite (LkP.xc (lkp_fn_X18_makeCoin K h_z_52 g_h0) (fun z_56 _ h_z_56 => (LkP.xc (lkp_fn_X18_makeCoin K h_z_56 g_h0) (fun z_58 _ h_z_58 => (LkP.ret h_z_58))))) (LkP.xc (lkp_fn_X18_end K h_z_52 g_h0) (fun z_60 _ h_z_60 => (LkP.ret h_z_60)))))))))))))))))))))))))))) (LkP.xg (LkP.xc (lkp_fn_X18_take K h_z g_h0) (fun z_6 r_7 h_z_6 => (LkP.xc (lkp_fn_X18_goesOn K h_z_6 g_h0) (fun z_10 r_11 h_z_10 => (LkP.ite (lkp_fn_X18_coin_B381 K h_z_10 g_h0) (LkP.xl (fun k_25 q => have g_k_25 := K.2.2.2.2.2 _ _ _ _ h_z_10 g_h0 q; (LkP.xg (LkP.xl (fun k_27 q => have g_k_27 := K.2.2.2.2.2 _ _ _ _ h_z_10 g_k_25 q; (LkP.xg (LkP.xc (lkp_fn_X18_ask K h_z_10 g_h0) (fun z_29 r_30 h_z_29 => (lkp_fn_X18_coin_B381 K h_z_29 g_h0))))))))))))))))))))
theorem lkp_fn_X18_manyThere {F : Nat} {sh : Nat → Nat × Nat} {n : Nat} {z : St} {h0 : Nat} {x0 : Int32} {x1 : Int32} {x2 : Int32} (K : Kp Q G) (h_z : Q z) (g_h0 : G h0) : LkP Q (fn_X18_manyThere F sh n z h0 x0 x1 x2) := by
  unfold fn_X18_manyThere
  exact (LkP.ite (LkP.xc (lkp_fn_X18_coinMany K h_z) (fun z_13 r_14 h_z_13 => (LkP.ret h_z_13))) (LkP.xg (LkP.xl (fun k_3 q => have g_k_3 := K.2.2.2.2.2 _ _ _ _ h_z g_h0 q; (LkP.xc (lkp_fn_X18_findModule K h_z g_h0) (fun z_4 r_5 h_z_4 => (LkP.xg (LkP.xl (fun k_8 q => have g_k_8 := K.2.2.2.2.2 _ _ _ _ h_z_4 g_k_3 q; (LkP.xg (LkP.xc (lkp_fn_X16_many K h_z_4 g_k_8) (fun z_9 r_10 h_z_9 => (LkP.ret h_z_9)))))))))))))
theorem lkp_fn_X18_typeThere {F : Nat} {sh : Nat → Nat × Nat} {n : Nat} {z : St} {h0 : Nat} {x0 : Int32} {x1 : Int32} {x2 : Int32} {x3 : Int32} (K : Kp Q G) (h_z : Q z) (g_h0 : G h0) : LkP Q (fn_X18_typeThere F sh n z h0 x0 x1 x2 x3) := by
  unfold fn_X18_typeThere
  exact (LkP.ite (LkP.xc (lkp_fn_X18_coinType K h_z) (fun z_13 r_14 h_z_13 => (LkP.ret h_z_13))) (LkP.xg (LkP.xl (fun k_3 q => have g_k_3 := K.2.2.2.2.2 _ _ _ _ h_z g_h0 q; (LkP.xc (lkp_fn_X18_findModule K h_z g_h0) (fun z_4 r_5 h_z_4 => (LkP.xg (LkP.xl (fun k_8 q => have g_k_8 := K.2.2.2.2.2 _ _ _ _ h_z_4 g_k_3 q; (LkP.xg (LkP.xc (lkp_fn_X16_listed K h_z_4 g_k_8) (fun z_9 r_10 h_z_9 => (LkP.ret h_z_9)))))))))))))
theorem lkp_fn_X18_giveBack_B44 {F : Nat} {sh : Nat → Nat × Nat} {n : Nat} {h0 : Nat} {z_11 : St} (K : Kp Q G) (h_z_11 : Q z_11) (g_h0 : G h0) : LkP Q (fn_X18_giveBack_B44 F sh n h0 z_11) := by
  unfold fn_X18_giveBack_B44
  exact (LkP.lts (K.1 _ _ _ _ h_z_11 g_h0) (fun z_13 h_z_13 => (LkP.ite (LkP.xc (lkp_fn_X18_end K h_z_13 g_h0) (fun z_15 _ h_z_15 => (LkP.ret h_z_15))) (LkP.ret h_z_13))))
theorem lkp_fn_X18_giveBack {F : Nat} {sh : Nat → Nat × Nat} {n : Nat} {z : St} {h0 : Nat} (K : Kp Q G) (h_z : Q z) (g_h0 : G h0) : LkP Q (fn_X18_giveBack F sh n z h0) := by
  unfold fn_X18_giveBack
  exact (LkP.xg (LkP.xl (fun k_2 q => have g_k_2 := K.2.2.2.2.2 _ _ _ _ h_z g_h0 q; (LkP.xl (fun k_3 q => have g_k_3 := K.2.2.2.2.2 _ _ _ _ h_z g_h0 q; (LkP.xg (LkP.xg (LkP.xc (lkp_fn_X16_many K h_z g_k_2) (fun z_5 r_6 h_z_5 => (LkP.xl (fun k_9 q => have g_k_9 := K.2.2.2.2.2 _ _ _ _ h_z_5 g_h0 q; (LkP.xg (LkP.ite (lkp_fn_X18_giveBack_B44 K h_z_5 g_h0) (LkP.xc (lkp_fn_X18_slip K h_z_5 g_h0) (fun z_18 _ h_z_18 => (lkp_fn_X18_giveBack_B44 K h_z_18 g_h0))))))))))))))))
theorem lkp_fn_X9_rebuild_B84 {F : Nat} {sh : Nat → Nat × Nat} {n : Nat} {k_24 : Nat} {p_20 : Int32} {ko57 : St → Int32 → Option (St × Unit)} {z_26 : St} {p_25 : Int64} (K : Kp Q G) (h_z_26 : Q z_26) (g_k_24 : G k_24) (hko_ko57 : ∀ (w0 : St) (w1 : Int32), Q w0 → LkP Q (ko57 w0 w1)) : LkP Q (fn_X9_rebuild_B84 F sh n k_24 p_20 ko57 z_26 p_25) := by
  unfold fn_X9_rebuild_B84
  exact (LkP.xg (LkP.lts (K.2.1 _ _ _ _ h_z_26 g_k_24) (fun z_29 h_z_29 => (hko_ko57 _ _ h_z_29 ))))
theorem lkp_fn_X9_rebuild_L57 {F : Nat} {sh : Nat → Nat × Nat} {n : Nat} {h0 : Nat} (K : Kp Q G) (g_h0 : G h0) : ∀ (f : Nat) (v1 : St) (v2 : Int32), Q v1 → LkP Q (fn_X9_rebuild_L57 F sh n h0 f v1 v2) := by
  intro f
  induction f with
  | zero => intros; exact LkP.none
  | succ f_22 ih =>
    intro z_21 p_20 h_z_21
    exact (LkP.ite (LkP.ret h_z_21) (LkP.xl (fun k_24 q => have g_k_24 := K.2.2.2.2.2 _ _ _ _ h_z_21 g_h0 q; (LkP.ite (lkp_fn_X9_rebuild_B84 K h_z_21 g_k_24 (fun z9 q2 hk_z9 => (ih _ _ hk_z9 ))) (LkP.xl (fun k_31 q => have g_k_31 := K.2.2.2.2.2 _ _ _ _ h_z_21 g_h0 q; (LkP.xg (lkp_fn_X9_rebuild_B84 K h_z_21 g_k_24 (fun z9 q2 hk_z9 => (ih _ _ hk_z9 ))))))))))
theorem lkp_fn_X9_rebuild_L36 {F : Nat} {sh : Nat → Nat × Nat} {n : Nat} {h0 : Nat} (K : Kp Q G) (g_h0 : G h0) : ∀ (f : Nat) (v1 : St) (v2 : Int32), Q v1 → LkP Q (fn_X9_rebuild_L36 F sh n h0 f v1 v2) := by
  intro f
  induction f with
  | zero => intros; exact LkP.none
  | succ f_18 ih =>
    intro z_17 p_16 h_z_17
    exact (LkP.ite (lkp_fn_X9_rebuild_L57 K g_h0 _ _ _ h_z_17 ) (LkP.xc (lkp_fn_X9_climb K h_z_17 g_h0) (fun z_33 _ h_z_33 => (ih _ _ h_z_33 ))))
theorem lkp_fn_X9_rebuild {F : Nat} {sh : Nat → Nat × Nat} {n : Nat} {z : St} {h0 : Nat} {x0 : Nat} (K : Kp Q G) (h_z : Q z) (g_h0 : G h0) (g_x0 : G x0) : LkP Q (fn_X9_rebuild F sh n z h0 x0) := by
  unfold fn_X9_rebuild
  exact (LkP.xg (LkP.lts (K.1 _ _ _ _ h_z g_h0) (fun z_3 h_z_3 => (LkP.lts (K.1 _ _ _ _ h_z_3 g_h0) (fun z_5 h_z_5 => (LkP.xc (lkp_fn_X9_gatherAccounts K h_z_5 g_h0 g_x0) (fun z_6 _ h_z_6 => (LkP.xc (lkp_fn_X9_gatherModules K h_z_6 g_h0 g_x0) (fun z_8 _ h_z_8 => (LkP.xc (lkp_fn_X9_gatherResources K h_z_8 g_h0 g_x0) (fun z_10 _ h_z_10 => (LkP.xc (lkp_fn_X9_leaveOutDoubles K h_z_10 g_h0) (fun z_12 _ h_z_12 => (LkP.lts (K.1 _ _ _ _ h_z_12 g_h0) (fun z_15 h_z_15 => (lkp_fn_X9_rebuild_L36 K g_h0 _ _ _ h_z_15 ))))))))))))))))
theorem lkp_fn_X18_enterCall_B128 {F : Nat} {sh : Nat → Nat × Nat} {n : Nat} {h0 : Nat} {p_15 : Int32} {p_16 : Int32} {r_7 : Int32} {z_18 : St} (K : Kp Q G) (h_z_18 : Q z_18) (g_h0 : G h0) : LkP Q (fn_X18_enterCall_B128 F sh n h0 p_15 p_16 r_7 z_18) := by
  unfold fn_X18_enterCall_B128
  exact (LkP.xc (lkp_fn_X18_spend K h_z_18 g_h0) (fun z_19 r_20 h_z_19 => (LkP.ite (LkP.ret h_z_19) (LkP.xc (lkp_fn_X18_enter K h_z_19 g_h0) (fun z_23 _ h_z_23 => (LkP.ret h_z_23))))))
theorem lkp_fn_X18_enterCall_B111 {F : Nat} {sh : Nat → Nat × Nat} {n : Nat} {h0 : Nat} {r_7 : Int32} {z_17 : St} {p_15 : Int32} {p_16 : Int32} (K : Kp Q G) (h_z_17 : Q z_17) (g_h0 : G h0) : LkP Q (fn_X18_enterCall_B111 F sh n h0 r_7 z_17 p_15 p_16) := by
  unfold fn_X18_enterCall_B111
  exact (LkP.ite (LkP.xc (lkp_fn_X18_end K h_z_17 g_h0) (fun z_26 _ h_z_26 => (lkp_fn_X18_enterCall_B128 K h_z_26 g_h0))) (lkp_fn_X18_enterCall_B128 K h_z_17 g_h0))
theorem lkp_fn_X18_enterCall_B50 {F : Nat} {sh : Nat → Nat × Nat} {n : Nat} {h0 : Nat} {x0 : Int32} {r_7 : Int32} {v_4 : Int32} {z_12 : St} (K : Kp Q G) (h_z_12 : Q z_12) (g_h0 : G h0) : LkP Q (fn_X18_enterCall_B50 F sh n h0 x0 r_7 v_4 z_12) := by
  unfold fn_X18_enterCall_B50
  exact (LkP.xl (fun k_13 q => have g_k_13 := K.2.2.2.2.2 _ _ _ _ h_z_12 g_h0 q; (LkP.xg (LkP.ite (lkp_fn_X18_enterCall_B111 K h_z_12 g_h0) (LkP.xl (fun k_29 q => have g_k_29 := K.2.2.2.2.2 _ _ _ _ h_z_12 g_h0 q; (LkP.xg (LkP.xc (lkp_fn_X16_foreignNumber K h_z_12 g_k_29) (fun z_30 r_31 h_z_30 => (LkP.xl (fun k_34 q => have g_k_34 := K.2.2.2.2.2 _ _ _ _ h_z_30 g_h0 q; (LkP.xg (LkP.xc (lkp_fn_X16_foreignModule K h_z_30 g_k_34) (fun z_35 r_36 h_z_35 => (LkP.ite (LkP.xc (lkp_fn_X18_coin K h_z_35 g_h0) (fun z_47 _ h_z_47 => (LkP.ret h_z_47))) (LkP.xc (lkp_fn_X18_ask K h_z_35 g_h0) (fun z_40 r_41 h_z_40 => (LkP.ite (LkP.xc (lkp_fn_X18_findModule K h_z_40 g_h0) (fun z_44 r_45 h_z_44 => (lkp_fn_X18_enterCall_B111 K h_z_44 g_h0))) (LkP.ret h_z_40)))))))))))))))))))
theorem lkp_fn_X18_enterCall {F : Nat} {sh : Nat → Nat × Nat} {n : Nat} {z : St} {h0 : Nat} {x0 : Int32} (K : Kp Q G) (h_z : Q z) (g_h0 : G h0) : LkP Q (fn_X18_enterCall F sh n z h0 x0) := by
  unfold fn_X18_enterCall
  exact (LkP.xg (LkP.xl (fun k_2 q => have g_k_2 := K.2.2.2.2.2 _ _ _ _ h_z g_h0 q; (LkP.xg (LkP.ltv (fun v_4 => (LkP.xl (fun k_5 q => have g_k_5 := K.2.2.2.2.2 _ _ _ _ h_z g_h0 q; (LkP.xg (LkP.xc (lkp_fn_X16_many K h_z g_k_5) (fun z_6 r_7 h_z_6 => (LkP.xl (fun k_10 q => have g_k_10 := K.2.2.2.2.2 _ _ _ _ h_z_6 g_h0 q; (LkP.xg (LkP.ite (lkp_fn_X18_enterCall_B50 K h_z_6 g_h0) (LkP.xc (lkp_fn_X18_slip K h_z_6 g_h0) (fun z_50 _ h_z_50 => (lkp_fn_X18_enterCall_B50 K h_z_50 g_h0))))))))))))))))))
theorem lkp_fn_X13_giveBack_B176 {F : Nat} {sh : Nat → Nat × Nat} {n : Nat} {h0 : Nat} {p_21 : Int32} {ko132 : St → Int32 → Option (St × Unit)} {z_29 : St} {p_28 : Int32} (K : Kp Q G) (h_z_29 : Q z_29) (g_h0 : G h0) (hko_ko132 : ∀ (w0 : St) (w1 : Int32), Q w0 → LkP Q (ko132 w0 w1)) : LkP Q (fn_X13_giveBack_B176 F sh n h0 p_21 ko132 z_29 p_28) := by
  unfold fn_X13_giveBack_B176
  exact (LkP.xc (lkp_fn_X13_need K h_z_29 g_h0) (fun z_30 _ h_z_30 => (hko_ko132 _ _ h_z_30 )))
theorem lkp_fn_X13_giveBack_B171 {F : Nat} {sh : Nat → Nat × Nat} {n : Nat} {h0 : Nat} {p_21 : Int32} {ko132 : St → Int32 → Option (St × Unit)} {z_32 : St} (K : Kp Q G) (h_z_32 : Q z_32) (g_h0 : G h0) (hko_ko132 : ∀ (w0 : St) (w1 : Int32), Q w0 → LkP Q (ko132 w0 w1)) : LkP Q (fn_X13_giveBack_B171 F sh n h0 p_21 ko132 z_32) := by
  unfold fn_X13_giveBack_B171
  exact (lkp_fn_X13_giveBack_B176 K h_z_32 g_h0 (fun z9 q2 hk_z9 => (hko_ko132 _ _ hk_z9 )))
theorem lkp_fn_X13_giveBack_L132 {F : Nat} {sh : Nat → Nat × Nat} {n : Nat} {h0 : Nat} (K : Kp Q G) (g_h0 : G h0) : ∀ (f : Nat) (v1 : St) (v2 : Int32), Q v1 → LkP Q (fn_X13_giveBack_L132 F sh n h0 f v1 v2) := by
  intro f
  induction f with
  | zero => intros; exact LkP.none
  | succ f_23 ih =>
    intro z_22 p_21 h_z_22
    exact (LkP.ite (LkP.ret h_z_22) (LkP.ite (LkP.xl (fun k_26 q => have g_k_26 := K.2.2.2.2.2 _ _ _ _ h_z_22 g_h0 q; (LkP.xg (LkP.ite (lkp_fn_X13_giveBack_B171 K h_z_22 g_h0 (fun z9 q2 hk_z9 => (ih _ _ hk_z9 ))) (LkP.xl (fun k_34 q => have g_k_34 := K.2.2.2.2.2 _ _ _ _ h_z_22 g_h0 q; (LkP.xg (LkP.xc (lkp_fn_X13_has K h_z_22 g_h0) (fun z_36 r_37 h_z_36 => (LkP.ite (lkp_fn_X13_giveBack_B176 K h_z_36 g_h0 (fun z9 q2 hk_z9 => (ih _ _ hk_z9 ))) (lkp_fn_X13_giveBack_B171 K h_z_36 g_h0 (fun z9 q2 hk_z9 => (ih _ _ hk_z9 ))))))))))))) (LkP.ret h_z_22)))
theorem lkp_fn_X13_giveBack_B130 {F : Nat} {sh : Nat → Nat × Nat} {n : Nat} {h0 : Nat} {z_20 : St} (K : Kp Q G) (h_z_20 : Q z_20) (g_h0 : G h0) : LkP Q (fn_X13_giveBack_B130 F sh n h0 z_20) := by
  unfold fn_X13_giveBack_B130
  exact (lkp_fn_X13_giveBack_L132 K g_h0 _ _ _ h_z_20 )
theorem lkp_fn_X13_giveBack_B119 {F : Nat} {sh : Nat → Nat × Nat} {n : Nat} {h0 : Nat} {p_17 : Int32} {ko83 : St → Int32 → Option (St × Unit)} {z_45 : St} {p_44 : Int32} (K : Kp Q G) (h_z_45 : Q z_45) (g_h0 : G h0) (hko_ko83 : ∀ (w0 : St) (w1 : Int32), Q w0 → LkP Q (ko83 w0 w1)) : LkP Q (fn_X13_giveBack_B119 F sh n h0 p_17 ko83 z_45 p_44) := by
  unfold fn_X13_giveBack_B119
  exact (LkP.xc (lkp_fn_X13_need K h_z_45 g_h0) (fun z_46 _ h_z_46 => (hko_ko83 _ _ h_z_46 )))
theorem lkp_fn_X13_giveBack_L83 {F : Nat} {sh : Nat → Nat × Nat} {n : Nat} {h0 : Nat} (K : Kp Q G) (g_h0 : G h0) : ∀ (f : Nat) (v1 : St) (v2 : Int32), Q v1 → LkP Q (fn_X13_giveBack_L83 F sh n h0 f v1 v2) := by
  intro f
  induction f with
  | zero => intros; exact LkP.none
  | succ f_19 ih =>
    intro z_18 p_17 h_z_18
    exact (LkP.ite (lkp_fn_X13_giveBack_B130 K h_z_18 g_h0) (LkP.ite (LkP.xl (fun k_42 q => have g_k_42 := K.2.2.2.2.2 _ _ _ _ h_z_18 g_h0 q; (LkP.xg (LkP.ite (lkp_fn_X13_giveBack_B119 K h_z_18 g_h0 (fun z9 q2 hk_z9 => (ih _ _ hk_z9 ))) (lkp_fn_X13_giveBack_B119 K h_z_18 g_h0 (fun z9 q2 hk_z9 => (ih _ _ hk_z9 ))))))) (lkp_fn_X13_giveBack_B130 K h_z_18 g_h0)))
theorem lkp_fn_X13_giveBack_B74 {F : Nat} {sh : Nat → Nat × Nat} {n : Nat} {h0 : Nat} {z_14 : St} {p_13 : Int32} (K : Kp Q G) (h_z_14 : Q z_14) (g_h0 : G h0) : LkP Q (fn_X13_giveBack_B74 F sh n h0 z_14 p_13) := by
  unfold fn_X13_giveBack_B74
  exact (LkP.xc (lkp_fn_X13_need K h_z_14 g_h0) (fun z_15 _ h_z_15 => (lkp_fn_X13_giveBack_L83 K g_h0 _ _ _ h_z_15 )))
theorem lkp_fn_X13_giveBack_B67 {F : Nat} {sh : Nat → Nat × Nat} {n : Nat} {p_10 : Int32} {ko27 : St → Int32 → Int32 → Option (St × Unit)} {z_59 : St} {p_58 : Int32} (K : Kp Q G) (h_z_59 : Q z_59) (hko_ko27 : ∀ (w0 : St) (w1 : Int32) (w2 : Int32), Q w0 → LkP Q (ko27 w0 w1 w2)) : LkP Q (fn_X13_giveBack_B67 F sh n p_10 ko27 z_59 p_58) := by
  unfold fn_X13_giveBack_B67
  exact (hko_ko27 _ _ _ h_z_59 )
theorem lkp_fn_X13_giveBack_L27 {F : Nat} {sh : Nat → Nat × Nat} {n : Nat} {h0 : Nat} (K : Kp Q G) (g_h0 : G h0) : ∀ (f : Nat) (v1 : St) (v2 : Int32) (v3 : Int32), Q v1 → LkP Q (fn_X13_giveBack_L27 F sh n h0 f v1 v2 v3) := by
  intro f
  induction f with
  | zero => intros; exact LkP.none
  | succ f_12 ih =>
    intro z_11 p_9 p_10 h_z_11
    exact (LkP.ite (lkp_fn_X13_giveBack_B74 K h_z_11 g_h0) (LkP.ite (lkp_fn_X13_giveBack_B74 K h_z_11 g_h0) (LkP.xl (fun k_51 q => have g_k_51 := K.2.2.2.2.2 _ _ _ _ h_z_11 g_h0 q; (LkP.xg (LkP.xl (fun k_53 q => have g_k_53 := K.2.2.2.2.2 _ _ _ _ h_z_11 g_h0 q; (LkP.xg (LkP.xc (lkp_fn_X16_listed K h_z_11 g_k_53) (fun z_54 r_55 h_z_54 => (LkP.ite (lkp_fn_X13_giveBack_B67 K h_z_54 (fun z9 q1 q2 hk_z9 => (ih _ _ _ hk_z9 ))) (lkp_fn_X13_giveBack_B67 K h_z_54 (fun z9 q1 q2 hk_z9 => (ih _ _ _ hk_z9 ))))))))))))))
theorem lkp_fn_X13_giveBack_B24 {F : Nat} {sh : Nat → Nat × Nat} {n : Nat} {h0 : Nat} {z_8 : St} {p_7 : Int32} (K : Kp Q G) (h_z_8 : Q z_8) (g_h0 : G h0) : LkP Q (fn_X13_giveBack_B24 F sh n h0 z_8 p_7) := by
  unfold fn_X13_giveBack_B24
  exact (lkp_fn_X13_giveBack_L27 K g_h0 _ _ _ _ h_z_8 )
theorem lkp_fn_X13_giveBack {F : Nat} {sh : Nat → Nat × Nat} {n : Nat} {z : St} {h0 : Nat} (K : Kp Q G) (h_z : Q z) (g_h0 : G h0) : LkP Q (fn_X13_giveBack F sh n z h0) := by
  unfold fn_X13_giveBack
  exact (LkP.xg (LkP.xl (fun k_2 q => have g_k_2 := K.2.2.2.2.2 _ _ _ _ h_z g_h0 q; (LkP.xg (LkP.xc (lkp_fn_X16_many K h_z g_k_2) (fun z_3 r_4 h_z_3 => (LkP.ite (lkp_fn_X13_giveBack_B24 K h_z_3 g_h0) (lkp_fn_X13_giveBack_B24 K h_z_3 g_h0))))))))
theorem lkp_fn_X11_takeModule_B144 {F : Nat} {sh : Nat → Nat × Nat} {n : Nat} {h0 : Nat} {x0 : Nat} {v_4 : Int32} {z_33 : St} {p_32 : Int32} (K : Kp Q G) (h_z_33 : Q z_33) (g_h0 : G h0) (g_x0 : G x0) : LkP Q (fn_X11_takeModule_B144 F sh n h0 x0 v_4 z_33 p_32) := by
  unfold fn_X11_takeModule_B144
  exact (LkP.ite (LkP.xl (fun k_35 q => have g_k_35 := K.2.2.2.2.2 _ _ _ _ h_z_33 g_h0 q; (LkP.xg (LkP.xc (lkp_fn_X7_placeCount K h_z_33 g_k_35) (fun z_36 r_37 h_z_36 => (LkP.ite (LkP.xl (fun k_41 q => have g_k_41 := K.2.2.2.2.2 _ _ _ _ h_z_36 g_h0 q; (LkP.xg (LkP.lts (K.1 _ _ _ _ h_z_36 g_k_41) (fun z_44 h_z_44 => (LkP.xc (lkp_fn_X8_end K h_z_44 g_x0) (fun z_45 _ h_z_45 => (LkP.ret h_z_45)))))))) (LkP.xc (lkp_fn_X8_end K h_z_36 g_x0) (fun z_47 _ h_z_47 => (LkP.ret h_z_47))))))))) (LkP.xc (lkp_fn_X8_end K h_z_33 g_x0) (fun z_49 _ h_z_49 => (LkP.ret h_z_49))))
theorem lkp_fn_X11_takeModule_B118 {F : Nat} {sh : Nat → Nat × Nat} {n : Nat} {h0 : Nat} {k_16 : Nat} {x0 : Nat} {v_4 : Int32} {z_31 : St} {p_30 : Int32} (K : Kp Q G) (h_z_31 : Q z_31) (g_h0 : G h0) (g_k_16 : G k_16) (g_x0 : G x0) : LkP Q (fn_X11_takeModule_B118 F sh n h0 k_16 x0 v_4 z_31 p_30) := by
  unfold fn_X11_takeModule_B118
  exact (LkP.ite (LkP.xl (fun k_52 q => have g_k_52 := K.2.2.2.2.2 _ _ _ _ h_z_31 g_h0 q; (LkP.xg (LkP.xc (lkp_fn_X3_look K h_z_31 g_k_52 g_k_16) (fun z_53 r_54 h_z_53 => (LkP.xl (fun k_57 q => have g_k_57 := K.2.2.2.2.2 _ _ _ _ h_z_53 g_h0 q; (LkP.xg (LkP.lts (K.1 _ _ _ _ h_z_53 g_x0) (fun z_60 h_z_60 => (lkp_fn_X11_takeModule_B144 K h_z_60 g_h0 g_x0))))))))))) (lkp_fn_X11_takeModule_B144 K h_z_31 g_h0 g_x0))
theorem lkp_fn_X11_takeModule {F : Nat} {sh : Nat → Nat × Nat} {n : Nat} {z : St} {h0 : Nat} {x0 : Nat} (K : Kp Q G) (h_z : Q z) (g_h0 : G h0) (g_x0 : G x0) : LkP Q (fn_X11_takeModule F sh n z h0 x0) := by
  unfold fn_X11_takeModule
  exact (LkP.xg (LkP.xl (fun k_2 q => have g_k_2 := K.2.2.2.2.2 _ _ _ _ h_z g_x0 q; (LkP.xg (LkP.ltv (fun v_4 => (LkP.ite (LkP.xg (LkP.xl (fun k_7 q => have g_k_7 := K.2.2.2.2.2 _ _ _ _ h_z g_h0 q; (LkP.xg (LkP.ite (LkP.xl (fun k_10 q => have g_k_10 := K.2.2.2.2.2 _ _ _ _ h_z g_h0 q; (LkP.xg (LkP.xl (fun k_12 q => have g_k_12 := K.2.2.2.2.2 _ _ _ _ h_z g_k_10 q; (LkP.xl (fun k_13 q => have g_k_13 := K.2.2.2.2.2 _ _ _ _ h_z g_h0 q; (LkP.xg (LkP.xg (LkP.xl (fun k_16 q => have g_k_16 := K.2.2.2.2.2 _ _ _ _ h_z g_k_12 q; (LkP.xl (fun k_17 q => have g_k_17 := K.2.2.2.2.2 _ _ _ _ h_z g_x0 q; (LkP.xg (LkP.xc (lkp_fn_X5_lay K h_z g_k_16 g_k_17) (fun z_18 _ h_z_18 => (LkP.xl (fun k_21 q => have g_k_21 := K.2.2.2.2.2 _ _ _ _ h_z_18 g_h0 q; (LkP.xg (LkP.xc (lkp_fn_X6_read K h_z_18 g_k_21 g_k_16) (fun z_22 r_23 h_z_22 => (LkP.xl (fun k_26 q => have g_k_26 := K.2.2.2.2.2 _ _ _ _ h_z_22 g_h0 q; (LkP.xg (LkP.lts (K.1 _ _ _ _ h_z_22 g_x0) (fun z_29 h_z_29 => (LkP.ite (LkP.xc (lkp_fn_X11_misfitOf K h_z_29 g_h0 g_k_16 g_x0) (fun z_62 r_63 h_z_62 => (lkp_fn_X11_takeModule_B118 K h_z_62 g_h0 g_k_16 g_x0))) (lkp_fn_X11_takeModule_B118 K h_z_29 g_h0 g_k_16 g_x0)))))))))))))))))))))))))))) (LkP.xc (lkp_fn_X8_end K h_z g_x0) (fun z_65 _ h_z_65 => (LkP.ret h_z_65)))))))) (LkP.xc (lkp_fn_X8_end K h_z g_x0) (fun z_67 _ h_z_67 => (LkP.ret h_z_67))))))))))
theorem lkp_fn_X18_refusal_L161 {F : Nat} {sh : Nat → Nat × Nat} {n : Nat} {k_8 : Nat} {v_4 : Int32} (K : Kp Q G) (g_k_8 : G k_8) : ∀ (f : Nat) (v1 : St) (v2 : Int32), Q v1 → LkP Q (fn_X18_refusal_L161 F sh n k_8 v_4 f v1 v2) := by
  intro f
  induction f with
  | zero => intros; exact LkP.none
  | succ f_33 ih =>
    intro z_32 p_31 h_z_32
    exact (LkP.xc (lkp_fn_X16_many K h_z_32 g_k_8) (fun z_34 r_35 h_z_34 => (LkP.ite (LkP.ret h_z_34) (LkP.xc (lkp_fn_X16_listed K h_z_34 g_k_8) (fun z_38 r_39 h_z_38 => (LkP.ite (ih _ _ h_z_38 ) (LkP.ret h_z_38)))))))
theorem lkp_fn_X18_refusal_B150 {F : Nat} {sh : Nat → Nat × Nat} {n : Nat} {k_8 : Nat} {v_4 : Int32} {z_29 : St} {p_28 : Int32} (K : Kp Q G) (h_z_29 : Q z_29) (g_k_8 : G k_8) : LkP Q (fn_X18_refusal_B150 F sh n k_8 v_4 z_29 p_28) := by
  unfold fn_X18_refusal_B150
  exact (LkP.ite (LkP.ret h_z_29) (lkp_fn_X18_refusal_L161 K g_k_8 _ _ _ h_z_29 ))
theorem lkp_fn_X18_refusal_B142 {F : Nat} {sh : Nat → Nat × Nat} {n : Nat} {p_23 : Int32} {ko95 : St → Int32 → Int32 → Option (St × Int32)} {z_50 : St} {p_49 : Int32} (K : Kp Q G) (h_z_50 : Q z_50) (hko_ko95 : ∀ (w0 : St) (w1 : Int32) (w2 : Int32), Q w0 → LkP Q (ko95 w0 w1 w2)) : LkP Q (fn_X18_refusal_B142 F sh n p_23 ko95 z_50 p_49) := by
  unfold fn_X18_refusal_B142
  exact (hko_ko95 _ _ _ h_z_50 )
theorem lkp_fn_X18_refusal_L95 {F : Nat} {sh : Nat → Nat × Nat} {n : Nat} {h0 : Nat} {x0 : Int32} {k_8 : Nat} {v_4 : Int32} (K : Kp Q G) (g_h0 : G h0) (g_k_8 : G k_8) : ∀ (f : Nat) (v1 : St) (v2 : Int32) (v3 : Int32), Q v1 → LkP Q (fn_X18_refusal_L95 F sh n h0 x0 k_8 v_4 f v1 v2 v3) := by
  intro f
  induction f with
  | zero => intros; exact LkP.none
  | succ f_25 ih =>
    intro z_24 p_22 p_23 h_z_24
    exact (LkP.xl (fun k_26 q => have g_k_26 := K.2.2.2.2.2 _ _ _ _ h_z_24 g_h0 q; (LkP.xg (LkP.ite (lkp_fn_X18_refusal_B150 K h_z_24 g_k_8) (LkP.ite (lkp_fn_X18_refusal_B150 K h_z_24 g_k_8) (LkP.xc (lkp_fn_X16_listed K h_z_24 g_k_8) (fun z_44 r_45 h_z_44 => (LkP.xl (fun k_47 q => have g_k_47 := K.2.2.2.2.2 _ _ _ _ h_z_44 g_h0 q; (LkP.xg (LkP.ite (lkp_fn_X18_refusal_B142 K h_z_44 (fun z9 q5 q6 hk_z9 => (ih _ _ _ hk_z9 ))) (lkp_fn_X18_refusal_B142 K h_z_44 (fun z9 q5 q6 hk_z9 => (ih _ _ _ hk_z9 ))))))))))))))
theorem lkp_fn_X18_refusal_B90 {F : Nat} {sh : Nat → Nat × Nat} {n : Nat} {h0 : Nat} {x0 : Int32} {k_8 : Nat} {v_4 : Int32} {z_21 : St} {p_20 : Int32} (K : Kp Q G) (h_z_21 : Q z_21) (g_h0 : G h0) (g_k_8 : G k_8) : LkP Q (fn_X18_refusal_B90 F sh n h0 x0 k_8 v_4 z_21 p_20) := by
  unfold fn_X18_refusal_B90
  exact (lkp_fn_X18_refusal_L95 K g_h0 g_k_8 _ _ _ _ h_z_21 )
theorem lkp_fn_X18_refusal {F : Nat} {sh : Nat → Nat × Nat} {n : Nat} {z : St} {h0 : Nat} {x0 : Int32} {x1 : Int32} (K : Kp Q G) (h_z : Q z) (g_h0 : G h0) : LkP Q (fn_X18_refusal F sh n z h0 x0 x1) := by
  unfold fn_X18_refusal
  exact (LkP.xg (LkP.xl (fun k_2 q => have g_k_2 := K.2.2.2.2.2 _ _ _ _ h_z g_h0 q; (LkP.xg (LkP.ltv (fun v_4 => (LkP.ite (LkP.xl (fun k_53 q => have g_k_53 := K.2.2.2.2.2 _ _ _ _ h_z g_h0 q; (LkP.xg (LkP.ite (LkP.ite (LkP.ret h_z) (LkP.ret h_z)) (LkP.ret h_z))))) (LkP.xl (fun k_6 q => have g_k_6 := K.2.2.2.2.2 _ _ _ _ h_z g_h0 q; (LkP.xg (LkP.xl (fun k_8 q => have g_k_8 := K.2.2.2.2.2 _ _ _ _ h_z g_k_6 q; (LkP.xg (LkP.ite (LkP.xc (lkp_fn_X16_flags K h_z g_k_8) (fun z_11 r_12 h_z_11 => (LkP.ite (LkP.ret h_z_11) (LkP.xc (lkp_fn_X16_many K h_z_11 g_k_8) (fun z_15 r_16 h_z_15 => (LkP.xl (fun k_18 q => have g_k_18 := K.2.2.2.2.2 _ _ _ _ h_z_15 g_h0 q; (LkP.xg (LkP.ite (lkp_fn_X18_refusal_B90 K h_z_15 g_h0 g_k_8) (lkp_fn_X18_refusal_B90 K h_z_15 g_h0 g_k_8)))))))))) (LkP.ret h_z)))))))))))))))
theorem lkp_fn_X4_run_B284 {F : Nat} {sh : Nat → Nat × Nat} {n : Nat} {h0 : Nat} {z_48 : St} (K : Kp Q G) (h_z_48 : Q z_48) (g_h0 : G h0) : LkP Q (fn_X4_run_B284 F sh n h0 z_48) := by
  unfold fn_X4_run_B284
  exact (LkP.xl (fun k_49 q => have g_k_49 := K.2.2.2.2.2 _ _ _ _ h_z_48 g_h0 q; (LkP.xg (LkP.xc (lkp_fn_X8_end K h_z_48 g_k_49) (fun z_50 _ h_z_50 => (LkP.ret h_z_50))))))
theorem lkp_fn_X4_run_L220 {F : Nat} {sh : Nat → Nat × Nat} {n : Nat} {h0 : Nat} (K : Kp Q G) (g_h0 : G h0) : ∀ (f : Nat) (v1 : St) (v2 : Int32), Q v1 → LkP Q (fn_X4_run_L220 F sh n h0 f v1 v2) := by
  intro f
  induction f with
  | zero => intros; exact LkP.none
  | succ f_56 ih =>
    intro z_55 p_54 h_z_55
    exact (LkP.xl (fun k_57 q => have g_k_57 := K.2.2.2.2.2 _ _ _ _ h_z_55 g_h0 q; (LkP.xg (LkP.ite (LkP.xl (fun k_60 q => have g_k_60 := K.2.2.2.2.2 _ _ _ _ h_z_55 g_h0 q; (LkP.xg (LkP.xc (lkp_fn_X2_commit K h_z_55 g_k_60) (fun z_61 _ h_z_61 => (lkp_fn_X4_run_B284 K h_z_61 g_h0)))))) (LkP.xl (fun k_64 q => have g_k_64 := K.2.2.2.2.2 _ _ _ _ h_z_55 g_h0 q; (LkP.xg (LkP.ltv (fun v_66 => (LkP.xl (fun k_67 q => have g_k_67 := K.2.2.2.2.2 _ _ _ _ h_z_55 g_h0 q; (LkP.xl (fun k_68 q => have g_k_68 := K.2.2.2.2.2 _ _ _ _ h_z_55 g_h0 q; (LkP.xg (LkP.xl (fun k_70 q => have g_k_70 := K.2.2.2.2.2 _ _ _ _ h_z_55 g_k_68 q; (LkP.xg (LkP.xl (fun k_72 q => have g_k_72 := K.2.2.2.2.2 _ _ _ _ h_z_55 g_h0 q; (LkP.xg (LkP.xl (fun k_74 q => have g_k_74 := K.2.2.2.2.2 _ _ _ _ h_z_55 g_k_72 q; (LkP.xg (LkP.xl (fun k_76 q => have g_k_76 := K.2.2.2.2.2 _ _ _ _ h_z_55 g_h0 q; (LkP.xg (LkP.xl (fun k_78 q => have g_k_78 := K.2.2.2.2.2 _ _ _ _ h_z_55 g_k_76 q; (LkP.xg (LkP.xg (LkP.xc (lkp_fn_X8_addResult K h_z_55 g_k_67) (fun z_80 _ h_z_80 => (ih _ _ h_z_80 )))))))))))))))))))))))))))))))))
theorem lkp_fn_X4_run_B211 {F : Nat} {sh : Nat → Nat × Nat} {n : Nat} {h0 : Nat} {z_47 : St} (K : Kp Q G) (h_z_47 : Q z_47) (g_h0 : G h0) : LkP Q (fn_X4_run_B211 F sh n h0 z_47) := by
  unfold fn_X4_run_B211
  exact (LkP.ite (lkp_fn_X4_run_L220 K g_h0 _ _ _ h_z_47 ) (lkp_fn_X4_run_B284 K h_z_47 g_h0))
theorem lkp_fn_X4_run_B186 {F : Nat} {sh : Nat → Nat × Nat} {n : Nat} {h0 : Nat} {z_46 : St} (K : Kp Q G) (h_z_46 : Q z_46) (g_h0 : G h0) : LkP Q (fn_X4_run_B186 F sh n h0 z_46) := by
  unfold fn_X4_run_B186
  exact (LkP.ite (LkP.xl (fun k_84 q => have g_k_84 := K.2.2.2.2.2 _ _ _ _ h_z_46 g_h0 q; (LkP.xg (LkP.xc (lkp_fn_X2_fits K h_z_46 g_k_84) (fun z_85 r_86 h_z_85 => (LkP.ite (LkP.xc (lkp_fn_X4_end K h_z_85 g_h0) (fun z_90 _ h_z_90 => (lkp_fn_X4_run_B211 K h_z_90 g_h0))) (lkp_fn_X4_run_B211 K h_z_85 g_h0))))))) (lkp_fn_X4_run_B211 K h_z_46 g_h0))
theorem lkp_fn_X4_run_L134 {F : Nat} {sh : Nat → Nat × Nat} {n : Nat} {h0 : Nat} (K : Kp Q G) (g_h0 : G h0) : ∀ (f : Nat) (v1 : St) (v2 : Int32), Q v1 → LkP Q (fn_X4_run_L134 F sh n h0 f v1 v2) := by
  intro f
  induction f with
  | zero => intros; exact LkP.none
  | succ f_45 ih =>
    intro z_44 p_43 h_z_44
    exact (LkP.ite (lkp_fn_X4_run_B186 K h_z_44 g_h0) (LkP.ite (lkp_fn_X4_run_B186 K h_z_44 g_h0) (LkP.xl (fun k_94 q => have g_k_94 := K.2.2.2.2.2 _ _ _ _ h_z_44 g_h0 q; (LkP.xg (LkP.ltv (fun v_96 => (LkP.xc (lkp_fn_X4_step K h_z_44 g_h0) (fun z_97 _ h_z_97 => (LkP.xl (fun k_99 q => have g_k_99 := K.2.2.2.2.2 _ _ _ _ h_z_97 g_h0 q; (LkP.xl (fun k_100 q => have g_k_100 := K.2.2.2.2.2 _ _ _ _ h_z_97 g_h0 q; (LkP.xg (LkP.ltv (fun v_102 => (LkP.xg (LkP.lts (K.1 _ _ _ _ h_z_97 g_k_99) (fun z_105 h_z_105 => (ih _ _ h_z_105 ))))))))))))))))))))
theorem lkp_fn_X4_run_L75 {F : Nat} {sh : Nat → Nat × Nat} {n : Nat} {h0 : Nat} (K : Kp Q G) (g_h0 : G h0) : ∀ (f : Nat) (v1 : St) (v2 : Int32), Q v1 → LkP Q (fn_X4_run_L75 F sh n h0 f v1 v2) := by
  intro f
  induction f with
  | zero => intros; exact LkP.none
  | succ f_39 ih =>
    intro z_38 p_37 h_z_38
    exact (LkP.xl (fun k_40 q => have g_k_40 := K.2.2.2.2.2 _ _ _ _ h_z_38 g_h0 q; (LkP.xg (LkP.ite (lkp_fn_X4_run_L134 K g_h0 _ _ _ h_z_38 ) (LkP.xl (fun k_106 q => have g_k_106 := K.2.2.2.2.2 _ _ _ _ h_z_38 g_h0 q; (LkP.xl (fun k_107 q => have g_k_107 := K.2.2.2.2.2 _ _ _ _ h_z_38 g_h0 q; (LkP.xl (fun k_108 q => have g_k_108 := K.2.2.2.2.2 _ _ _ _ h_z_38 g_h0 q; (LkP.xg (LkP.xl (fun k_110 q => have g_k_110 := K.2.2.2.2.2 _ _ _ _ h_z_38 g_k_108 q; (LkP.xg (LkP.xl (fun k_112 q => have g_k_112 := K.2.2.2.2.2 _ _ _ _ h_z_38 g_h0 q; (LkP.xg (LkP.xl (fun k_114 q => have g_k_114 := K.2.2.2.2.2 _ _ _ _ h_z_38 g_k_112 q; (LkP.xg (LkP.xl (fun k_116 q => have g_k_116 := K.2.2.2.2.2 _ _ _ _ h_z_38 g_h0 q; (LkP.xg (LkP.xl (fun k_118 q => have g_k_118 := K.2.2.2.2.2 _ _ _ _ h_z_38 g_k_116 q; (LkP.xg (LkP.xg (LkP.xc (lkp_fn_X1_make K h_z_38 g_k_107) (fun z_120 r_121 h_z_120 => (LkP.xg (LkP.lts (K.1 _ _ _ _ h_z_120 g_k_106) (fun z_126 h_z_126 => (ih _ _ h_z_126 )))))))))))))))))))))))))))))))))
theorem lkp_fn_X4_run {F : Nat} {sh : Nat → Nat × Nat} {n : Nat} {z : St} {h0 : Nat} {x0 : Nat} (K : Kp Q G) (h_z : Q z) (g_h0 : G h0) (g_x0 : G x0) : LkP Q (fn_X4_run F sh n z h0 x0) := by
  unfold fn_X4_run
  exact (LkP.xg (LkP.lts (K.2.2.1 _ _ _ _ h_z g_h0 (some_q g_x0)) (fun z_3 h_z_3 => (LkP.lts (K.1 _ _ _ _ h_z_3 g_h0) (fun z_5 h_z_5 => (LkP.lts (K.1 _ _ _ _ h_z_5 g_h0) (fun z_7 h_z_7 => (LkP.lts (K.1 _ _ _ _ h_z_7 g_h0) (fun z_9 h_z_9 => (LkP.lts (K.2.1 _ _ _ _ h_z_9 g_h0) (fun z_11 h_z_11 => (LkP.xl (fun k_12 q => have g_k_12 := K.2.2.2.2.2 _ _ _ _ h_z_11 g_h0 q; (LkP.xg (LkP.xc (lkp_fn_X1_clear K h_z_11 g_k_12) (fun z_13 _ h_z_13 => (LkP.xl (fun k_16 q => have g_k_16 := K.2.2.2.2.2 _ _ _ _ h_z_13 g_h0 q; (LkP.xl (fun k_17 q => have g_k_17 := K.2.2.2.2.2 _ _ _ _ h_z_13 g_h0 q; (LkP.xg (LkP.xc (lkp_fn_X2_open K h_z_13 g_k_16 g_k_17) (fun z_18 _ h_z_18 => (LkP.lts (K.1 _ _ _ _ h_z_18 g_h0) (fun z_22 h_z_22 => (LkP.xl (fun k_23 q => have g_k_23 := K.2.2.2.2.2 _ _ _ _ h_z_22 g_h0 q; (LkP.xl (fun k_24 q => have g_k_24 := K.2.2.2.2.2 _ _ _ _ h_z_22 g_h0 q; (LkP.xg (LkP.xg (LkP.calo (lkp_fn_X7_findProgram K h_z_22 g_k_23) (fun z_26 r_27 h_z_26 o_r_27 => (LkP.xn (LkP.xl (fun k_31 q => have g_k_31 := K.2.2.2.2.2 _ _ _ _ h_z_26 g_h0 q; (LkP.xg LkP.none))) (fun k_30 q => have g_k_30 := o_r_27 _ q; (LkP.xl (fun k_33 q => have g_k_33 := K.2.2.2.2.2 _ _ _ _ h_z_26 g_h0 q; (LkP.xg (LkP.xc (lkp_fn_X4_pushFrame K h_z_26 g_h0 g_k_30) (fun z_35 _ h_z_35 => (lkp_fn_X4_run_L75 K g_h0 _ _ _ h_z_35 )))))))))))))))))))))))))))))))))))))))))
theorem lkp_fn_X13_begin_B268 {F : Nat} {sh : Nat → Nat × Nat} {n : Nat} {k_51 : Nat} {p_41 : Int32} {h0 : Nat} {ko211 : St → Int32 → Option (St × Unit)} {z_53 : St} {p_52 : Int64} (K : Kp Q G) (h_z_53 : Q z_53) (g_k_51 : G k_51) (g_h0 : G h0) (hko_ko211 : ∀ (w0 : St) (w1 : Int32), Q w0 → LkP Q (ko211 w0 w1)) : LkP Q (fn_X13_begin_B268 F sh n k_51 p_41 h0 ko211 z_53 p_52) := by
  unfold fn_X13_begin_B268
  exact (LkP.xg (LkP.lts (K.2.1 _ _ _ _ h_z_53 g_k_51) (fun z_56 h_z_56 => (LkP.xl (fun k_57 q => have g_k_57 := K.2.2.2.2.2 _ _ _ _ h_z_56 g_h0 q; (LkP.xg (LkP.lts (K.1 _ _ _ _ h_z_56 g_k_57) (fun z_60 h_z_60 => (hko_ko211 _ _ h_z_60 )))))))))
theorem lkp_fn_X13_begin_B267 {F : Nat} {sh : Nat → Nat × Nat} {n : Nat} {k_51 : Nat} {p_41 : Int32} {h0 : Nat} {ko211 : St → Int32 → Option (St × Unit)} {z_61 : St} (K : Kp Q G) (h_z_61 : Q z_61) (g_k_51 : G k_51) (g_h0 : G h0) (hko_ko211 : ∀ (w0 : St) (w1 : Int32), Q w0 → LkP Q (ko211 w0 w1)) : LkP Q (fn_X13_begin_B267 F sh n k_51 p_41 h0 ko211 z_61) := by
  unfold fn_X13_begin_B267
  exact (lkp_fn_X13_begin_B268 K h_z_61 g_k_51 g_h0 (fun z9 q2 hk_z9 => (hko_ko211 _ _ hk_z9 )))
theorem lkp_fn_X13_begin_B229 {F : Nat} {sh : Nat → Nat × Nat} {n : Nat} {h0 : Nat} {p_41 : Int32} {ko211 : St → Int32 → Option (St × Unit)} {z_46 : St} {p_45 : Int32} (K : Kp Q G) (h_z_46 : Q z_46) (g_h0 : G h0) (hko_ko211 : ∀ (w0 : St) (w1 : Int32), Q w0 → LkP Q (ko211 w0 w1)) : LkP Q (fn_X13_begin_B229 F sh n h0 p_41 ko211 z_46 p_45) := by
  unfold fn_X13_begin_B229
  exact (LkP.xl (fun k_47 q => have g_k_47 := K.2.2.2.2.2 _ _ _ _ h_z_46 g_h0 q; (LkP.xg (LkP.lts (K.1 _ _ _ _ h_z_46 g_k_47) (fun z_50 h_z_50 => (LkP.xl (fun k_51 q => have g_k_51 := K.2.2.2.2.2 _ _ _ _ h_z_50 g_h0 q; (LkP.ite (lkp_fn_X13_begin_B267 K h_z_50 g_k_51 g_h0 (fun z9 q2 hk_z9 => (hko_ko211 _ _ hk_z9 ))) (LkP.xl (fun k_63 q => have g_k_63 := K.2.2.2.2.2 _ _ _ _ h_z_50 g_h0 q; (LkP.xg (LkP.xc (lkp_fn_X13_isReference K h_z_50) (fun z_65 r_66 h_z_65 => (LkP.ite (lkp_fn_X13_begin_B267 K h_z_65 g_k_51 g_h0 (fun z9 q2 hk_z9 => (hko_ko211 _ _ hk_z9 ))) (lkp_fn_X13_begin_B268 K h_z_65 g_k_51 g_h0 (fun z9 q2 hk_z9 => (hko_ko211 _ _ hk_z9 )))))))))))))))))
theorem lkp_fn_X13_begin_L211 {F : Nat} {sh : Nat → Nat × Nat} {n : Nat} {h0 : Nat} {r_15 : Int32} (K : Kp Q G) (g_h0 : G h0) : ∀ (f : Nat) (v1 : St) (v2 : Int32), Q v1 → LkP Q (fn_X13_begin_L211 F sh n h0 r_15 f v1 v2) := by
  intro f
  induction f with
  | zero => intros; exact LkP.none
  | succ f_43 ih =>
    intro z_42 p_41 h_z_42
    exact (LkP.ite (LkP.ret h_z_42) (LkP.ite (lkp_fn_X13_begin_B229 K h_z_42 g_h0 (fun z9 q2 hk_z9 => (ih _ _ hk_z9 ))) (lkp_fn_X13_begin_B229 K h_z_42 g_h0 (fun z9 q2 hk_z9 => (ih _ _ hk_z9 )))))
theorem lkp_fn_X13_begin_B196 {F : Nat} {sh : Nat → Nat × Nat} {n : Nat} {p_33 : Int32} {ko145 : St → Int32 → Option (St × Unit)} {z_75 : St} (K : Kp Q G) (h_z_75 : Q z_75) (hko_ko145 : ∀ (w0 : St) (w1 : Int32), Q w0 → LkP Q (ko145 w0 w1)) : LkP Q (fn_X13_begin_B196 F sh n p_33 ko145 z_75) := by
  unfold fn_X13_begin_B196
  exact (hko_ko145 _ _ h_z_75 )
theorem lkp_fn_X13_begin_L145 {F : Nat} {sh : Nat → Nat × Nat} {n : Nat} {h0 : Nat} {r_15 : Int32} (K : Kp Q G) (g_h0 : G h0) : ∀ (f : Nat) (v1 : St) (v2 : Int32), Q v1 → LkP Q (fn_X13_begin_L145 F sh n h0 r_15 f v1 v2) := by
  intro f
  induction f with
  | zero => intros; exact LkP.none
  | succ f_35 ih =>
    intro z_34 p_33 h_z_34
    exact (LkP.ite (LkP.xl (fun k_37 q => have g_k_37 := K.2.2.2.2.2 _ _ _ _ h_z_34 g_h0 q; (LkP.xg (LkP.lts (K.1 _ _ _ _ h_z_34 g_k_37) (fun z_40 h_z_40 => (lkp_fn_X13_begin_L211 K g_h0 _ _ _ h_z_40 )))))) (LkP.xl (fun k_70 q => have g_k_70 := K.2.2.2.2.2 _ _ _ _ h_z_34 g_h0 q; (LkP.xg (LkP.xc (lkp_fn_X16_operation K h_z_34 g_k_70) (fun z_71 r_72 h_z_71 => (LkP.ite (lkp_fn_X13_begin_B196 K h_z_71 (fun z9 q2 hk_z9 => (ih _ _ hk_z9 ))) (LkP.ite (lkp_fn_X13_begin_B196 K h_z_71 (fun z9 q2 hk_z9 => (ih _ _ hk_z9 ))) (LkP.xl (fun k_78 q => have g_k_78 := K.2.2.2.2.2 _ _ _ _ h_z_71 g_h0 q; (LkP.xl (fun k_79 q => have g_k_79 := K.2.2.2.2.2 _ _ _ _ h_z_71 g_h0 q; (LkP.xg (LkP.xc (lkp_fn_X16_operand K h_z_71 g_k_79) (fun z_80 r_81 h_z_80 => (LkP.xg (LkP.lts (K.1 _ _ _ _ h_z_80 g_k_78) (fun z_86 h_z_86 => (lkp_fn_X13_begin_B196 K h_z_86 (fun z9 q2 hk_z9 => (ih _ _ hk_z9 )))))))))))))))))))))
theorem lkp_fn_X13_begin_L116 {F : Nat} {sh : Nat → Nat × Nat} {n : Nat} {h0 : Nat} {r_15 : Int32} (K : Kp Q G) (g_h0 : G h0) : ∀ (f : Nat) (v1 : St) (v2 : Int32), Q v1 → LkP Q (fn_X13_begin_L116 F sh n h0 r_15 f v1 v2) := by
  intro f
  induction f with
  | zero => intros; exact LkP.none
  | succ f_31 ih =>
    intro z_30 p_29 h_z_30
    exact (LkP.ite (lkp_fn_X13_begin_L145 K g_h0 _ _ _ h_z_30 ) (LkP.xl (fun k_87 q => have g_k_87 := K.2.2.2.2.2 _ _ _ _ h_z_30 g_h0 q; (LkP.xg (LkP.lts (K.1 _ _ _ _ h_z_30 g_k_87) (fun z_90 h_z_90 => (LkP.xl (fun k_91 q => have g_k_91 := K.2.2.2.2.2 _ _ _ _ h_z_90 g_h0 q; (LkP.xg (LkP.lts (K.1 _ _ _ _ h_z_90 g_k_91) (fun z_94 h_z_94 => (ih _ _ h_z_94 ))))))))))))
theorem lkp_fn_X13_begin_B107 {F : Nat} {sh : Nat → Nat × Nat} {n : Nat} {k_95 : Nat} {p_25 : Int32} {ko58 : St → Int32 → Option (St × Unit)} {z_97 : St} {p_96 : Int64} (K : Kp Q G) (h_z_97 : Q z_97) (g_k_95 : G k_95) (hko_ko58 : ∀ (w0 : St) (w1 : Int32), Q w0 → LkP Q (ko58 w0 w1)) : LkP Q (fn_X13_begin_B107 F sh n k_95 p_25 ko58 z_97 p_96) := by
  unfold fn_X13_begin_B107
  exact (LkP.xg (LkP.lts (K.2.1 _ _ _ _ h_z_97 g_k_95) (fun z_100 h_z_100 => (hko_ko58 _ _ h_z_100 ))))
theorem lkp_fn_X13_begin_L58 {F : Nat} {sh : Nat → Nat × Nat} {n : Nat} {h0 : Nat} {r_15 : Int32} (K : Kp Q G) (g_h0 : G h0) : ∀ (f : Nat) (v1 : St) (v2 : Int32), Q v1 → LkP Q (fn_X13_begin_L58 F sh n h0 r_15 f v1 v2) := by
  intro f
  induction f with
  | zero => intros; exact LkP.none
  | succ f_27 ih =>
    intro z_26 p_25 h_z_26
    exact (LkP.ite (lkp_fn_X13_begin_L116 K g_h0 _ _ _ h_z_26 ) (LkP.xl (fun k_95 q => have g_k_95 := K.2.2.2.2.2 _ _ _ _ h_z_26 g_h0 q; (LkP.ite (LkP.xl (fun k_102 q => have g_k_102 := K.2.2.2.2.2 _ _ _ _ h_z_26 g_h0 q; (LkP.xg (LkP.xc (lkp_fn_X16_listed K h_z_26 g_k_102) (fun z_103 r_104 h_z_103 => (lkp_fn_X13_begin_B107 K h_z_103 g_k_95 (fun z9 q2 hk_z9 => (ih _ _ hk_z9 )))))))) (LkP.xl (fun k_107 q => have g_k_107 := K.2.2.2.2.2 _ _ _ _ h_z_26 g_h0 q; (LkP.xg (LkP.xc (lkp_fn_X16_listed K h_z_26 g_k_107) (fun z_108 r_109 h_z_108 => (lkp_fn_X13_begin_B107 K h_z_108 g_k_95 (fun z9 q2 hk_z9 => (ih _ _ hk_z9 ))))))))))))
theorem lkp_fn_X13_begin {F : Nat} {sh : Nat → Nat × Nat} {n : Nat} {z : St} {h0 : Nat} (K : Kp Q G) (h_z : Q z) (g_h0 : G h0) : LkP Q (fn_X13_begin F sh n z h0) := by
  unfold fn_X13_begin
  exact (LkP.xg (LkP.lts (K.1 _ _ _ _ h_z g_h0) (fun z_3 h_z_3 => (LkP.lts (K.1 _ _ _ _ h_z_3 g_h0) (fun z_5 h_z_5 => (LkP.xl (fun k_6 q => have g_k_6 := K.2.2.2.2.2 _ _ _ _ h_z_5 g_h0 q; (LkP.xg (LkP.xc (lkp_fn_X16_instructions K h_z_5 g_k_6) (fun z_7 r_8 h_z_7 => (LkP.lts (K.1 _ _ _ _ h_z_7 g_h0) (fun z_12 h_z_12 => (LkP.xl (fun k_13 q => have g_k_13 := K.2.2.2.2.2 _ _ _ _ h_z_12 g_h0 q; (LkP.xg (LkP.xc (lkp_fn_X16_many K h_z_12 g_k_13) (fun z_14 r_15 h_z_14 => (LkP.xl (fun k_18 q => have g_k_18 := K.2.2.2.2.2 _ _ _ _ h_z_14 g_h0 q; (LkP.xg (LkP.xc (lkp_fn_X16_many K h_z_14 g_k_18) (fun z_19 r_20 h_z_19 => (LkP.lts (K.1 _ _ _ _ h_z_19 g_h0) (fun z_24 h_z_24 => (lkp_fn_X13_begin_L58 K g_h0 _ _ _ h_z_24 )))))))))))))))))))))))))
theorem lkp_fn_X18_root_L258 {F : Nat} {sh : Nat → Nat × Nat} {n : Nat} {h0 : Nat} {x0 : Int32} (K : Kp Q G) (g_h0 : G h0) : ∀ (f : Nat) (v1 : St) (v2 : Int32), Q v1 → LkP Q (fn_X18_root_L258 F sh n h0 x0 f v1 v2) := by
  intro f
  induction f with
  | zero => intros; exact LkP.none
  | succ f_22 ih =>
    intro z_21 p_20 h_z_21
    exact (LkP.ite (LkP.xl (fun k_24 q => have g_k_24 := K.2.2.2.2.2 _ _ _ _ h_z_21 g_h0 q; (LkP.xg (LkP.xc (lkp_fn_X14_all K h_z_21 g_k_24) (fun z_25 _ h_z_25 => (LkP.xl (fun k_28 q => have g_k_28 := K.2.2.2.2.2 _ _ _ _ h_z_25 g_h0 q; (LkP.xg (LkP.xc (lkp_fn_X14_get K h_z_25 g_k_28) (fun z_29 r_30 h_z_29 => (LkP.ret h_z_29))))))))))) (LkP.xl (fun k_33 q => have g_k_33 := K.2.2.2.2.2 _ _ _ _ h_z_21 g_h0 q; (LkP.xg (LkP.xc (lkp_fn_X12_add K h_z_21 g_k_33) (fun z_34 _ h_z_34 => (LkP.xl (fun k_37 q => have g_k_37 := K.2.2.2.2.2 _ _ _ _ h_z_34 g_h0 q; (LkP.xl (fun k_38 q => have g_k_38 := K.2.2.2.2.2 _ _ _ _ h_z_34 g_h0 q; (LkP.xg (LkP.xg (LkP.xc (lkp_fn_X12_addNumber K h_z_34 g_k_37) (fun z_40 _ h_z_40 => (LkP.xl (fun k_43 q => have g_k_43 := K.2.2.2.2.2 _ _ _ _ h_z_40 g_h0 q; (LkP.xl (fun k_44 q => have g_k_44 := K.2.2.2.2.2 _ _ _ _ h_z_40 g_h0 q; (LkP.xg (LkP.xg (LkP.xc (lkp_fn_X12_addNumber K h_z_40 g_k_43) (fun z_46 _ h_z_46 => (LkP.xl (fun k_49 q => have g_k_49 := K.2.2.2.2.2 _ _ _ _ h_z_46 g_h0 q; (LkP.xc (lkp_fn_X18_keepFour K h_z_46 g_h0 g_k_49) (fun z_50 _ h_z_50 => (LkP.xc (lkp_fn_X18_addBytes K h_z_50 g_h0) (fun z_52 _ h_z_52 => (LkP.xl (fun k_54 q => have g_k_54 := K.2.2.2.2.2 _ _ _ _ h_z_52 g_h0 q; (LkP.xc (lkp_fn_X18_keepFour K h_z_52 g_h0 g_k_54) (fun z_55 _ h_z_55 => (LkP.xl (fun k_57 q => have g_k_57 := K.2.2.2.2.2 _ _ _ _ h_z_55 g_h0 q; (LkP.xl (fun k_58 q => have g_k_58 := K.2.2.2.2.2 _ _ _ _ h_z_55 g_h0 q; (LkP.xl (fun k_59 q => have g_k_59 := K.2.2.2.2.2 _ _ _ _ h_z_55 g_h0 q; (LkP.xl (fun k_60 q => have g_k_60 := K.2.2.2.2.2 _ _ _ _ h_z_55 g_h0 q; (LkP.xg (LkP.xl (fun k_62 q => have g_k_62 := K.2.2.2.2.2 _ _ _ _ h_z_55 g_h0 q; (LkP.xg (LkP.xg (LkP.xc (lkp_fn_X14_put K h_z_55 g_k_57 g_k_58 g_k_59) (fun z_64 _ h_z_64 => (ih _ _ h_z_64 ))))))))))))))))))))))))))))))))))))))))))))))))
theorem lkp_fn_X18_root_L179 {F : Nat} {sh : Nat → Nat × Nat} {n : Nat} {h0 : Nat} {p_16 : Int32} {ko135 : St → Int32 → Option (St × Int64)} (K : Kp Q G) (g_h0 : G h0) (hko_ko135 : ∀ (w0 : St) (w1 : Int32), Q w0 → LkP Q (ko135 w0 w1)) : ∀ (f : Nat) (v1 : St) (v2 : Int32), Q v1 → LkP Q (fn_X18_root_L179 F sh n h0 p_16 ko135 f v1 v2) := by
  intro f
  induction f with
  | zero => intros; exact LkP.none
  | succ f_87 ih =>
    intro z_86 p_85 h_z_86
    exact (LkP.xl (fun k_88 q => have g_k_88 := K.2.2.2.2.2 _ _ _ _ h_z_86 g_h0 q; (LkP.xg (LkP.xl (fun k_90 q => have g_k_90 := K.2.2.2.2.2 _ _ _ _ h_z_86 g_k_88 q; (LkP.xg (LkP.ite (LkP.xl (fun k_93 q => have g_k_93 := K.2.2.2.2.2 _ _ _ _ h_z_86 g_h0 q; (LkP.xc (lkp_fn_X18_keepFour K h_z_86 g_h0 g_k_93) (fun z_94 _ h_z_94 => (LkP.xl (fun k_96 q => have g_k_96 := K.2.2.2.2.2 _ _ _ _ h_z_94 g_h0 q; (LkP.xl (fun k_97 q => have g_k_97 := K.2.2.2.2.2 _ _ _ _ h_z_94 g_h0 q; (LkP.xl (fun k_98 q => have g_k_98 := K.2.2.2.2.2 _ _ _ _ h_z_94 g_h0 q; (LkP.xl (fun k_99 q => have g_k_99 := K.2.2.2.2.2 _ _ _ _ h_z_94 g_h0 q; (LkP.xg (LkP.xl (fun k_101 q => have g_k_101 := K.2.2.2.2.2 _ _ _ _ h_z_94 g_k_99 q; (LkP.xg (LkP.xc (lkp_fn_X16_number K h_z_94 g_k_101) (fun z_102 r_103 h_z_102 => (LkP.xg (LkP.xc (lkp_fn_X14_put K h_z_102 g_k_96 g_k_97 g_k_98) (fun z_106 _ h_z_106 => (hko_ko135 _ _ h_z_106 )))))))))))))))))))))) (LkP.xl (fun k_109 q => have g_k_109 := K.2.2.2.2.2 _ _ _ _ h_z_86 g_h0 q; (LkP.xl (fun k_110 q => have g_k_110 := K.2.2.2.2.2 _ _ _ _ h_z_86 g_h0 q; (LkP.xg (LkP.xl (fun k_112 q => have g_k_112 := K.2.2.2.2.2 _ _ _ _ h_z_86 g_k_110 q; (LkP.xg (LkP.xl (fun k_114 q => have g_k_114 := K.2.2.2.2.2 _ _ _ _ h_z_86 g_k_112 q; (LkP.xg (LkP.xg (LkP.xc (lkp_fn_X12_add K h_z_86 g_k_109) (fun z_116 _ h_z_116 => (ih _ _ h_z_116 ))))))))))))))))))))))
theorem lkp_fn_X18_root_L135 {F : Nat} {sh : Nat → Nat × Nat} {n : Nat} {h0 : Nat} {x0 : Int32} (K : Kp Q G) (g_h0 : G h0) : ∀ (f : Nat) (v1 : St) (v2 : Int32), Q v1 → LkP Q (fn_X18_root_L135 F sh n h0 x0 f v1 v2) := by
  intro f
  induction f with
  | zero => intros; exact LkP.none
  | succ f_18 ih =>
    intro z_17 p_16 h_z_17
    exact (LkP.ite (lkp_fn_X18_root_L258 K g_h0 _ _ _ h_z_17 ) (LkP.xl (fun k_67 q => have g_k_67 := K.2.2.2.2.2 _ _ _ _ h_z_17 g_h0 q; (LkP.xg (LkP.xc (lkp_fn_X12_add K h_z_17 g_k_67) (fun z_68 _ h_z_68 => (LkP.xl (fun k_71 q => have g_k_71 := K.2.2.2.2.2 _ _ _ _ h_z_68 g_h0 q; (LkP.xl (fun k_72 q => have g_k_72 := K.2.2.2.2.2 _ _ _ _ h_z_68 g_h0 q; (LkP.xg (LkP.xl (fun k_74 q => have g_k_74 := K.2.2.2.2.2 _ _ _ _ h_z_68 g_k_72 q; (LkP.xg (LkP.xc (lkp_fn_X16_number K h_z_68 g_k_74) (fun z_75 r_76 h_z_75 => (LkP.xg (LkP.xc (lkp_fn_X12_addNumber K h_z_75 g_k_71) (fun z_79 _ h_z_79 => (LkP.xl (fun k_82 q => have g_k_82 := K.2.2.2.2.2 _ _ _ _ h_z_79 g_h0 q; (LkP.xc (lkp_fn_X18_keepFour K h_z_79 g_h0 g_k_82) (fun z_83 _ h_z_83 => (lkp_fn_X18_root_L179 K g_h0 (fun z9 q2 hk_z9 => (ih _ _ hk_z9 )) _ _ _ h_z_83 ))))))))))))))))))))))))
theorem lkp_fn_X18_root_L27 {F : Nat} {sh : Nat → Nat × Nat} {n : Nat} {h0 : Nat} {x0 : Int32} (K : Kp Q G) (g_h0 : G h0) : ∀ (f : Nat) (v1 : St) (v2 : Int32), Q v1 → LkP Q (fn_X18_root_L27 F sh n h0 x0 f v1 v2) := by
  intro f
  induction f with
  | zero => intros; exact LkP.none
  | succ f_14 ih =>
    intro z_13 p_12 h_z_13
    exact (LkP.ite (lkp_fn_X18_root_L135 K g_h0 _ _ _ h_z_13 ) (LkP.xl (fun k_119 q => have g_k_119 := K.2.2.2.2.2 _ _ _ _ h_z_13 g_h0 q; (LkP.xg (LkP.xc (lkp_fn_X12_add K h_z_13 g_k_119) (fun z_120 _ h_z_120 => (LkP.xl (fun k_123 q => have g_k_123 := K.2.2.2.2.2 _ _ _ _ h_z_120 g_h0 q; (LkP.xl (fun k_124 q => have g_k_124 := K.2.2.2.2.2 _ _ _ _ h_z_120 g_h0 q; (LkP.xg (LkP.xg (LkP.xc (lkp_fn_X12_addNumber K h_z_120 g_k_123) (fun z_126 _ h_z_126 => (LkP.xl (fun k_129 q => have g_k_129 := K.2.2.2.2.2 _ _ _ _ h_z_126 g_h0 q; (LkP.xc (lkp_fn_X18_keepFour K h_z_126 g_h0 g_k_129) (fun z_130 _ h_z_130 => (LkP.xl (fun k_132 q => have g_k_132 := K.2.2.2.2.2 _ _ _ _ h_z_130 g_h0 q; (LkP.xl (fun k_133 q => have g_k_133 := K.2.2.2.2.2 _ _ _ _ h_z_130 g_h0 q; (LkP.xg (LkP.xg (LkP.xc (lkp_fn_X12_addNumber K h_z_130 g_k_132) (fun z_135 _ h_z_135 => (LkP.xl (fun k_138 q => have g_k_138 := K.2.2.2.2.2 _ _ _ _ h_z_135 g_h0 q; (LkP.xl (fun k_139 q => have g_k_139 := K.2.2.2.2.2 _ _ _ _ h_z_135 g_h0 q; (LkP.xg (LkP.xg (LkP.xc (lkp_fn_X12_addNumber K h_z_135 g_k_138) (fun z_141 _ h_z_141 => (LkP.xl (fun k_144 q => have g_k_144 := K.2.2.2.2.2 _ _ _ _ h_z_141 g_h0 q; (LkP.xc (lkp_fn_X18_keepFour K h_z_141 g_h0 g_k_144) (fun z_145 _ h_z_145 => (LkP.xl (fun k_147 q => have g_k_147 := K.2.2.2.2.2 _ _ _ _ h_z_145 g_h0 q; (LkP.xl (fun k_148 q => have g_k_148 := K.2.2.2.2.2 _ _ _ _ h_z_145 g_h0 q; (LkP.xl (fun k_149 q => have g_k_149 := K.2.2.2.2.2 _ _ _ _ h_z_145 g_h0 q; (LkP.xl (fun k_150 q => have g_k_150 := K.2.2.2.2.2 _ _ _ _ h_z_145 g_h0 q; (LkP.xg (LkP.xg (LkP.xc (lkp_fn_X14_put K h_z_145 g_k_147 g_k_148 g_k_149) (fun z_152 _ h_z_152 => (ih _ _ h_z_152 )))))))))))))))))))))))))))))))))))))))))))))))))))
theorem lkp_fn_X18_root {F : Nat} {sh : Nat → Nat × Nat} {n : Nat} {z : St} {h0 : Nat} {x0 : Int32} (K : Kp Q G) (h_z : Q z) (g_h0 : G h0) : LkP Q (fn_X18_root F sh n z h0 x0) := by
  unfold fn_X18_root
  exact (LkP.ite (LkP.ret h_z) (LkP.ite (LkP.xg (LkP.xl (fun k_4 q => have g_k_4 := K.2.2.2.2.2 _ _ _ _ h_z g_h0 q; (LkP.xg (LkP.xc (lkp_fn_X14_begin K h_z g_k_4) (fun z_5 _ h_z_5 => (LkP.xl (fun k_8 q => have g_k_8 := K.2.2.2.2.2 _ _ _ _ h_z_5 g_h0 q; (LkP.xg (LkP.xc (lkp_fn_X12_begin K h_z_5 g_k_8) (fun z_9 _ h_z_9 => (lkp_fn_X18_root_L27 K g_h0 _ _ _ h_z_9 )))))))))))) (LkP.ret h_z)))
theorem lkp_fn_X13_call_B376 {F : Nat} {sh : Nat → Nat × Nat} {n : Nat} {h0 : Nat} {r_53 : Int64} {p_42 : Int32} {ko331 : St → Int32 → Option (St × Unit)} {z_60 : St} {p_59 : Int64} (K : Kp Q G) (h_z_60 : Q z_60) (g_h0 : G h0) (hko_ko331 : ∀ (w0 : St) (w1 : Int32), Q w0 → LkP Q (ko331 w0 w1)) : LkP Q (fn_X13_call_B376 F sh n h0 r_53 p_42 ko331 z_60 p_59) := by
  unfold fn_X13_call_B376
  exact (LkP.xc (lkp_fn_X13_push K h_z_60 g_h0) (fun z_61 _ h_z_61 => (hko_ko331 _ _ h_z_61 )))
theorem lkp_fn_X13_call_L331 {F : Nat} {sh : Nat → Nat × Nat} {n : Nat} {h0 : Nat} {x0 : Int32} {p_25 : Int64} {p_26 : Int64} (K : Kp Q G) (g_h0 : G h0) : ∀ (f : Nat) (v1 : St) (v2 : Int32), Q v1 → LkP Q (fn_X13_call_L331 F sh n h0 x0 p_25 p_26 f v1 v2) := by
  intro f
  induction f with
  | zero => intros; exact LkP.none
  | succ f_44 ih =>
    intro z_43 p_42 h_z_43
    exact (LkP.xl (fun k_45 q => have g_k_45 := K.2.2.2.2.2 _ _ _ _ h_z_43 g_h0 q; (LkP.xg (LkP.xc (lkp_fn_X16_many K h_z_43 g_k_45) (fun z_46 r_47 h_z_46 => (LkP.ite (LkP.ret h_z_46) (LkP.xl (fun k_51 q => have g_k_51 := K.2.2.2.2.2 _ _ _ _ h_z_46 g_h0 q; (LkP.xg (LkP.xc (lkp_fn_X16_listed K h_z_46 g_k_51) (fun z_52 r_53 h_z_52 => (LkP.xc (lkp_fn_X13_writes K h_z_52) (fun z_56 r_57 h_z_56 => (LkP.ite (lkp_fn_X13_call_B376 K h_z_56 g_h0 (fun z9 q10 hk_z9 => (ih _ _ hk_z9 ))) (lkp_fn_X13_call_B376 K h_z_56 g_h0 (fun z9 q10 hk_z9 => (ih _ _ hk_z9 )))))))))))))))))
theorem lkp_fn_X13_call_B323 {F : Nat} {sh : Nat → Nat × Nat} {n : Nat} {h0 : Nat} {x0 : Int32} {p_25 : Int64} {p_26 : Int64} {z_39 : St} {p_38 : Int32} (K : Kp Q G) (h_z_39 : Q z_39) (g_h0 : G h0) : LkP Q (fn_X13_call_B323 F sh n h0 x0 p_25 p_26 z_39 p_38) := by
  unfold fn_X13_call_B323
  exact (LkP.xc (lkp_fn_X13_need K h_z_39 g_h0) (fun z_40 _ h_z_40 => (lkp_fn_X13_call_L331 K g_h0 _ _ _ h_z_40 )))
theorem lkp_fn_X13_call_B318 {F : Nat} {sh : Nat → Nat × Nat} {n : Nat} {h0 : Nat} {x0 : Int32} {p_25 : Int64} {p_26 : Int64} {z_64 : St} (K : Kp Q G) (h_z_64 : Q z_64) (g_h0 : G h0) : LkP Q (fn_X13_call_B318 F sh n h0 x0 p_25 p_26 z_64) := by
  unfold fn_X13_call_B318
  exact (lkp_fn_X13_call_B323 K h_z_64 g_h0)
theorem lkp_fn_X13_call_B299 {F : Nat} {sh : Nat → Nat × Nat} {n : Nat} {p_34 : Int32} {ko272 : St → Int32 → Int32 → Option (St × Unit)} {z_68 : St} {p_67 : Int32} (K : Kp Q G) (h_z_68 : Q z_68) (hko_ko272 : ∀ (w0 : St) (w1 : Int32) (w2 : Int32), Q w0 → LkP Q (ko272 w0 w1 w2)) : LkP Q (fn_X13_call_B299 F sh n p_34 ko272 z_68 p_67) := by
  unfold fn_X13_call_B299
  exact (hko_ko272 _ _ _ h_z_68 )
theorem lkp_fn_X13_call_B294 {F : Nat} {sh : Nat → Nat × Nat} {n : Nat} {p_34 : Int32} {ko272 : St → Int32 → Int32 → Option (St × Unit)} {z_69 : St} (K : Kp Q G) (h_z_69 : Q z_69) (hko_ko272 : ∀ (w0 : St) (w1 : Int32) (w2 : Int32), Q w0 → LkP Q (ko272 w0 w1 w2)) : LkP Q (fn_X13_call_B294 F sh n p_34 ko272 z_69) := by
  unfold fn_X13_call_B294
  exact (lkp_fn_X13_call_B299 K h_z_69 (fun z9 q9 q10 hk_z9 => (hko_ko272 _ _ _ hk_z9 )))
theorem lkp_fn_X13_call_L272 {F : Nat} {sh : Nat → Nat × Nat} {n : Nat} {p_19 : Int32} {h0 : Nat} {x0 : Int32} {p_25 : Int64} {p_26 : Int64} (K : Kp Q G) (g_h0 : G h0) : ∀ (f : Nat) (v1 : St) (v2 : Int32) (v3 : Int32), Q v1 → LkP Q (fn_X13_call_L272 F sh n p_19 h0 x0 p_25 p_26 f v1 v2 v3) := by
  intro f
  induction f with
  | zero => intros; exact LkP.none
  | succ f_36 ih =>
    intro z_35 p_33 p_34 h_z_35
    exact (LkP.ite (LkP.ite (lkp_fn_X13_call_B318 K h_z_35 g_h0) (LkP.ite (lkp_fn_X13_call_B318 K h_z_35 g_h0) (lkp_fn_X13_call_B323 K h_z_35 g_h0))) (LkP.ite (LkP.xc (lkp_fn_X13_isPointed K h_z_35 g_h0) (fun z_71 r_72 h_z_71 => (LkP.ite (lkp_fn_X13_call_B299 K h_z_71 (fun z9 q9 q10 hk_z9 => (ih _ _ _ hk_z9 ))) (lkp_fn_X13_call_B294 K h_z_71 (fun z9 q9 q10 hk_z9 => (ih _ _ _ hk_z9 )))))) (lkp_fn_X13_call_B294 K h_z_35 (fun z9 q9 q10 hk_z9 => (ih _ _ _ hk_z9 )))))
theorem lkp_fn_X13_call_B266 {F : Nat} {sh : Nat → Nat × Nat} {n : Nat} {p_19 : Int32} {h0 : Nat} {x0 : Int32} {p_25 : Int64} {p_26 : Int64} {z_32 : St} {p_31 : Int32} (K : Kp Q G) (h_z_32 : Q z_32) (g_h0 : G h0) : LkP Q (fn_X13_call_B266 F sh n p_19 h0 x0 p_25 p_26 z_32 p_31) := by
  unfold fn_X13_call_B266
  exact (lkp_fn_X13_call_L272 K g_h0 _ _ _ _ h_z_32 )
theorem lkp_fn_X13_call_B245 {F : Nat} {sh : Nat → Nat × Nat} {n : Nat} {v_78 : Int64} {p_27 : Int32} {ko117 : St → Int64 → Int64 → Int32 → Option (St × Unit)} {z_85 : St} {p_84 : Int64} (K : Kp Q G) (h_z_85 : Q z_85) (hko_ko117 : ∀ (w0 : St) (w1 : Int64) (w2 : Int64) (w3 : Int32), Q w0 → LkP Q (ko117 w0 w1 w2 w3)) : LkP Q (fn_X13_call_B245 F sh n v_78 p_27 ko117 z_85 p_84) := by
  unfold fn_X13_call_B245
  exact (hko_ko117 _ _ _ _ h_z_85 )
theorem lkp_fn_X13_call_B234 {F : Nat} {sh : Nat → Nat × Nat} {n : Nat} {h0 : Nat} {p_97 : Int32} {ko191 : St → Int32 → Option (St × Unit)} {z_102 : St} {p_101 : Int32} (K : Kp Q G) (h_z_102 : Q z_102) (g_h0 : G h0) (hko_ko191 : ∀ (w0 : St) (w1 : Int32), Q w0 → LkP Q (ko191 w0 w1)) : LkP Q (fn_X13_call_B234 F sh n h0 p_97 ko191 z_102 p_101) := by
  unfold fn_X13_call_B234
  exact (LkP.xc (lkp_fn_X13_need K h_z_102 g_h0) (fun z_103 _ h_z_103 => (hko_ko191 _ _ h_z_103 )))
theorem lkp_fn_X13_call_B229 {F : Nat} {sh : Nat → Nat × Nat} {n : Nat} {h0 : Nat} {p_97 : Int32} {ko191 : St → Int32 → Option (St × Unit)} {z_105 : St} (K : Kp Q G) (h_z_105 : Q z_105) (g_h0 : G h0) (hko_ko191 : ∀ (w0 : St) (w1 : Int32), Q w0 → LkP Q (ko191 w0 w1)) : LkP Q (fn_X13_call_B229 F sh n h0 p_97 ko191 z_105) := by
  unfold fn_X13_call_B229
  exact (lkp_fn_X13_call_B234 K h_z_105 g_h0 (fun z9 q10 hk_z9 => (hko_ko191 _ _ hk_z9 )))
theorem lkp_fn_X13_call_L191 {F : Nat} {sh : Nat → Nat × Nat} {n : Nat} {r_4 : Int32} {v_78 : Int64} {p_27 : Int32} {v_89 : Int64} {h0 : Nat} {v_7 : Int32} {ko117 : St → Int64 → Int64 → Int32 → Option (St × Unit)} (K : Kp Q G) (g_h0 : G h0) (hko_ko117 : ∀ (w0 : St) (w1 : Int64) (w2 : Int64) (w3 : Int32), Q w0 → LkP Q (ko117 w0 w1 w2 w3)) : ∀ (f : Nat) (v1 : St) (v2 : Int32), Q v1 → LkP Q (fn_X13_call_L191 F sh n r_4 v_78 p_27 v_89 h0 v_7 ko117 f v1 v2) := by
  intro f
  induction f with
  | zero => intros; exact LkP.none
  | succ f_99 ih =>
    intro z_98 p_97 h_z_98
    exact (LkP.ite (lkp_fn_X13_call_B245 K h_z_98 (fun z9 q5 q7 q9 hk_z9 => (hko_ko117 _ _ _ _ hk_z9 ))) (LkP.ite (lkp_fn_X13_call_B229 K h_z_98 g_h0 (fun z9 q10 hk_z9 => (ih _ _ hk_z9 ))) (LkP.xl (fun k_107 q => have g_k_107 := K.2.2.2.2.2 _ _ _ _ h_z_98 g_h0 q; (LkP.xg (LkP.xl (fun k_109 q => have g_k_109 := K.2.2.2.2.2 _ _ _ _ h_z_98 g_h0 q; (LkP.xg (LkP.ite (lkp_fn_X13_call_B229 K h_z_98 g_h0 (fun z9 q10 hk_z9 => (ih _ _ hk_z9 ))) (lkp_fn_X13_call_B234 K h_z_98 g_h0 (fun z9 q10 hk_z9 => (ih _ _ hk_z9 ))))))))))))
theorem lkp_fn_X13_call_L117 {F : Nat} {sh : Nat → Nat × Nat} {n : Nat} {r_4 : Int32} {p_19 : Int32} {h0 : Nat} {x0 : Int32} {v_7 : Int32} (K : Kp Q G) (g_h0 : G h0) : ∀ (f : Nat) (v1 : St) (v2 : Int64) (v3 : Int64) (v4 : Int32), Q v1 → LkP Q (fn_X13_call_L117 F sh n r_4 p_19 h0 x0 v_7 f v1 v2 v3 v4) := by
  intro f
  induction f with
  | zero => intros; exact LkP.none
  | succ f_29 ih =>
    intro z_28 p_25 p_26 p_27 h_z_28
    exact (LkP.ite (LkP.ite (lkp_fn_X13_call_B266 K h_z_28 g_h0) (lkp_fn_X13_call_B266 K h_z_28 g_h0)) (LkP.xl (fun k_76 q => have g_k_76 := K.2.2.2.2.2 _ _ _ _ h_z_28 g_h0 q; (LkP.xg (LkP.ltv (fun v_78 => (LkP.xl (fun k_79 q => have g_k_79 := K.2.2.2.2.2 _ _ _ _ h_z_28 g_h0 q; (LkP.xg (LkP.xc (lkp_fn_X13_writes K h_z_28) (fun z_81 r_82 h_z_81 => (LkP.ite (lkp_fn_X13_call_B245 K h_z_81 (fun z9 q5 q7 q9 hk_z9 => (ih _ _ _ _ hk_z9 ))) (LkP.xl (fun k_87 q => have g_k_87 := K.2.2.2.2.2 _ _ _ _ h_z_81 g_h0 q; (LkP.xg (LkP.ltv (fun v_89 => (LkP.xl (fun k_90 q => have g_k_90 := K.2.2.2.2.2 _ _ _ _ h_z_81 g_h0 q; (LkP.xg (LkP.xc (lkp_fn_X13_isSole K h_z_81 g_h0) (fun z_92 r_93 h_z_92 => (LkP.xc (lkp_fn_X13_need K h_z_92 g_h0) (fun z_95 _ h_z_95 => (lkp_fn_X13_call_L191 K g_h0 (fun z9 q5 q7 q9 hk_z9 => (ih _ _ _ _ hk_z9 )) _ _ _ h_z_95 )))))))))))))))))))))))))
theorem lkp_fn_X13_call_B103 {F : Nat} {sh : Nat → Nat × Nat} {n : Nat} {h0 : Nat} {r_4 : Int32} {p_19 : Int32} {x0 : Int32} {v_7 : Int32} {z_22 : St} {p_21 : Int32} (K : Kp Q G) (h_z_22 : Q z_22) (g_h0 : G h0) : LkP Q (fn_X13_call_B103 F sh n h0 r_4 p_19 x0 v_7 z_22 p_21) := by
  unfold fn_X13_call_B103
  exact (LkP.xc (lkp_fn_X13_need K h_z_22 g_h0) (fun z_23 _ h_z_23 => (lkp_fn_X13_call_L117 K g_h0 _ _ _ _ _ h_z_23 )))
theorem lkp_fn_X13_call_B98 {F : Nat} {sh : Nat → Nat × Nat} {n : Nat} {h0 : Nat} {r_4 : Int32} {p_19 : Int32} {x0 : Int32} {v_7 : Int32} {z_112 : St} (K : Kp Q G) (h_z_112 : Q z_112) (g_h0 : G h0) : LkP Q (fn_X13_call_B98 F sh n h0 r_4 p_19 x0 v_7 z_112) := by
  unfold fn_X13_call_B98
  exact (lkp_fn_X13_call_B103 K h_z_112 g_h0)
theorem lkp_fn_X13_call_B74 {F : Nat} {sh : Nat → Nat × Nat} {n : Nat} {h0 : Nat} {r_4 : Int32} {x0 : Int32} {v_7 : Int32} {z_20 : St} {p_19 : Int32} (K : Kp Q G) (h_z_20 : Q z_20) (g_h0 : G h0) : LkP Q (fn_X13_call_B74 F sh n h0 r_4 x0 v_7 z_20 p_19) := by
  unfold fn_X13_call_B74
  exact (LkP.ite (lkp_fn_X13_call_B98 K h_z_20 g_h0) (LkP.xl (fun k_114 q => have g_k_114 := K.2.2.2.2.2 _ _ _ _ h_z_20 g_h0 q; (LkP.xg (LkP.xc (lkp_fn_X16_flags K h_z_20 g_k_114) (fun z_115 r_116 h_z_115 => (LkP.ite (lkp_fn_X13_call_B103 K h_z_115 g_h0) (lkp_fn_X13_call_B98 K h_z_115 g_h0))))))))
theorem lkp_fn_X13_call_L22 {F : Nat} {sh : Nat → Nat × Nat} {n : Nat} {h0 : Nat} {x0 : Int32} {r_4 : Int32} {v_7 : Int32} (K : Kp Q G) (g_h0 : G h0) : ∀ (f : Nat) (v1 : St) (v2 : Int32), Q v1 → LkP Q (fn_X13_call_L22 F sh n h0 x0 r_4 v_7 f v1 v2) := by
  intro f
  induction f with
  | zero => intros; exact LkP.none
  | succ f_11 ih =>
    intro z_10 p_9 h_z_10
    exact (LkP.ite (LkP.ite (LkP.xl (fun k_14 q => have g_k_14 := K.2.2.2.2.2 _ _ _ _ h_z_10 g_h0 q; (LkP.xg (LkP.xc (lkp_fn_X16_flags K h_z_10 g_k_14) (fun z_15 r_16 h_z_15 => (LkP.ite (lkp_fn_X13_call_B74 K h_z_15 g_h0) (lkp_fn_X13_call_B74 K h_z_15 g_h0))))))) (LkP.ret h_z_10)) (LkP.xl (fun k_121 q => have g_k_121 := K.2.2.2.2.2 _ _ _ _ h_z_10 g_h0 q; (LkP.xg (LkP.xc (lkp_fn_X16_listed K h_z_10 g_k_121) (fun z_122 r_123 h_z_122 => (LkP.xc (lkp_fn_X13_take_ K h_z_122 g_h0) (fun z_126 _ h_z_126 => (ih _ _ h_z_126 )))))))))
theorem lkp_fn_X13_call {F : Nat} {sh : Nat → Nat × Nat} {n : Nat} {z : St} {h0 : Nat} {x0 : Int32} (K : Kp Q G) (h_z : Q z) (g_h0 : G h0) : LkP Q (fn_X13_call F sh n z h0 x0) := by
  unfold fn_X13_call
  exact (LkP.xg (LkP.xl (fun k_2 q => have g_k_2 := K.2.2.2.2.2 _ _ _ _ h_z g_h0 q; (LkP.xg (LkP.xc (lkp_fn_X16_many K h_z g_k_2) (fun z_3 r_4 h_z_3 => (LkP.ltv (fun v_7 => (LkP.ltv (fun v_8 => (lkp_fn_X13_call_L22 K g_h0 _ _ _ h_z_3 )))))))))))
theorem lkp_fn_X16_overAll_B495 {F : Nat} {sh : Nat → Nat × Nat} {n : Nat} {h0 : Nat} {z_64 : St} (K : Kp Q G) (h_z_64 : Q z_64) (g_h0 : G h0) : LkP Q (fn_X16_overAll_B495 F sh n h0 z_64) := by
  unfold fn_X16_overAll_B495
  exact (LkP.xc (lkp_fn_X16_isGood K h_z_64 g_h0) (fun z_65 r_66 h_z_65 => (LkP.ite (LkP.ret h_z_65) (LkP.ite (LkP.ret h_z_65) (LkP.xc (lkp_fn_X16_fail K h_z_65 g_h0) (fun z_70 _ h_z_70 => (LkP.ret h_z_70)))))))
theorem lkp_fn_X16_overAll_L469 {F : Nat} {sh : Nat → Nat × Nat} {n : Nat} {h0 : Nat} (K : Kp Q G) (g_h0 : G h0) : ∀ (f : Nat) (v1 : St) (v2 : Int32), Q v1 → LkP Q (fn_X16_overAll_L469 F sh n h0 f v1 v2) := by
  intro f
  induction f with
  | zero => intros; exact LkP.none
  | succ f_63 ih =>
    intro z_62 p_61 h_z_62
    exact (LkP.ite (lkp_fn_X16_overAll_B495 K h_z_62 g_h0) (LkP.xc (lkp_fn_X16_isGood K h_z_62 g_h0) (fun z_73 r_74 h_z_73 => (LkP.ite (lkp_fn_X16_overAll_B495 K h_z_73 g_h0) (LkP.xc (lkp_fn_X16_overFunction K h_z_73 g_h0) (fun z_77 _ h_z_77 => (ih _ _ h_z_77 )))))))
theorem lkp_fn_X16_overAll_B464 {F : Nat} {sh : Nat → Nat × Nat} {n : Nat} {h0 : Nat} {z_58 : St} {p_57 : Int32} (K : Kp Q G) (h_z_58 : Q z_58) (g_h0 : G h0) : LkP Q (fn_X16_overAll_B464 F sh n h0 z_58 p_57) := by
  unfold fn_X16_overAll_B464
  exact (LkP.lts (K.1 _ _ _ _ h_z_58 g_h0) (fun z_60 h_z_60 => (lkp_fn_X16_overAll_L469 K g_h0 _ _ _ h_z_60 )))
theorem lkp_fn_X16_overAll_B445 {F : Nat} {sh : Nat → Nat × Nat} {n : Nat} {h0 : Nat} {z_53 : St} (K : Kp Q G) (h_z_53 : Q z_53) (g_h0 : G h0) : LkP Q (fn_X16_overAll_B445 F sh n h0 z_53) := by
  unfold fn_X16_overAll_B445
  exact (LkP.xc (lkp_fn_X16_isGood K h_z_53 g_h0) (fun z_54 r_55 h_z_54 => (LkP.ite (lkp_fn_X16_overAll_B464 K h_z_54 g_h0) (LkP.xc (lkp_fn_X16_count K h_z_54 g_h0) (fun z_80 r_81 h_z_80 => (lkp_fn_X16_overAll_B464 K h_z_80 g_h0))))))
theorem lkp_fn_X16_overAll_L409 {F : Nat} {sh : Nat → Nat × Nat} {n : Nat} {h0 : Nat} (K : Kp Q G) (g_h0 : G h0) : ∀ (f : Nat) (v1 : St) (v2 : Int32), Q v1 → LkP Q (fn_X16_overAll_L409 F sh n h0 f v1 v2) := by
  intro f
  induction f with
  | zero => intros; exact LkP.none
  | succ f_52 ih =>
    intro z_51 p_50 h_z_51
    exact (LkP.ite (lkp_fn_X16_overAll_B445 K h_z_51 g_h0) (LkP.xc (lkp_fn_X16_isGood K h_z_51 g_h0) (fun z_84 r_85 h_z_84 => (LkP.ite (lkp_fn_X16_overAll_B445 K h_z_84 g_h0) (LkP.xl (fun k_88 q => have g_k_88 := K.2.2.2.2.2 _ _ _ _ h_z_84 g_h0 q; (LkP.xg (LkP.lts (K.1 _ _ _ _ h_z_84 g_k_88) (fun z_91 h_z_91 => (LkP.xc (lkp_fn_X16_overType K h_z_91 g_h0) (fun z_92 _ h_z_92 => (ih _ _ h_z_92 ))))))))))))
theorem lkp_fn_X16_overAll_B404 {F : Nat} {sh : Nat → Nat × Nat} {n : Nat} {h0 : Nat} {z_47 : St} {p_46 : Int32} (K : Kp Q G) (h_z_47 : Q z_47) (g_h0 : G h0) : LkP Q (fn_X16_overAll_B404 F sh n h0 z_47 p_46) := by
  unfold fn_X16_overAll_B404
  exact (LkP.lts (K.1 _ _ _ _ h_z_47 g_h0) (fun z_49 h_z_49 => (lkp_fn_X16_overAll_L409 K g_h0 _ _ _ h_z_49 )))
theorem lkp_fn_X16_overAll_B385 {F : Nat} {sh : Nat → Nat × Nat} {n : Nat} {h0 : Nat} {z_42 : St} (K : Kp Q G) (h_z_42 : Q z_42) (g_h0 : G h0) : LkP Q (fn_X16_overAll_B385 F sh n h0 z_42) := by
  unfold fn_X16_overAll_B385
  exact (LkP.xc (lkp_fn_X16_isGood K h_z_42 g_h0) (fun z_43 r_44 h_z_43 => (LkP.ite (lkp_fn_X16_overAll_B404 K h_z_43 g_h0) (LkP.xc (lkp_fn_X16_count K h_z_43 g_h0) (fun z_95 r_96 h_z_95 => (lkp_fn_X16_overAll_B404 K h_z_95 g_h0))))))
theorem lkp_fn_X16_overAll_B379 {F : Nat} {sh : Nat → Nat × Nat} {n : Nat} {p_39 : Int32} {ko305 : St → Int32 → Option (St × Unit)} {z_121 : St} (K : Kp Q G) (h_z_121 : Q z_121) (hko_ko305 : ∀ (w0 : St) (w1 : Int32), Q w0 → LkP Q (ko305 w0 w1)) : LkP Q (fn_X16_overAll_B379 F sh n p_39 ko305 z_121) := by
  unfold fn_X16_overAll_B379
  exact (hko_ko305 _ _ h_z_121 )
theorem lkp_fn_X16_overAll_B365 {F : Nat} {sh : Nat → Nat × Nat} {n : Nat} {h0 : Nat} {p_39 : Int32} {ko305 : St → Int32 → Option (St × Unit)} {z_117 : St} (K : Kp Q G) (h_z_117 : Q z_117) (g_h0 : G h0) (hko_ko305 : ∀ (w0 : St) (w1 : Int32), Q w0 → LkP Q (ko305 w0 w1)) : LkP Q (fn_X16_overAll_B365 F sh n h0 p_39 ko305 z_117) := by
  unfold fn_X16_overAll_B365
  exact (LkP.xc (lkp_fn_X16_isGood K h_z_117 g_h0) (fun z_118 r_119 h_z_118 => (LkP.ite (lkp_fn_X16_overAll_B379 K h_z_118 (fun z9 q1 hk_z9 => (hko_ko305 _ _ hk_z9 ))) (LkP.xc (lkp_fn_X16_overList K h_z_118 g_h0) (fun z_123 _ h_z_123 => (lkp_fn_X16_overAll_B379 K h_z_123 (fun z9 q1 hk_z9 => (hko_ko305 _ _ hk_z9 ))))))))
theorem lkp_fn_X16_overAll_B351 {F : Nat} {sh : Nat → Nat × Nat} {n : Nat} {h0 : Nat} {p_39 : Int32} {ko305 : St → Int32 → Option (St × Unit)} {z_113 : St} (K : Kp Q G) (h_z_113 : Q z_113) (g_h0 : G h0) (hko_ko305 : ∀ (w0 : St) (w1 : Int32), Q w0 → LkP Q (ko305 w0 w1)) : LkP Q (fn_X16_overAll_B351 F sh n h0 p_39 ko305 z_113) := by
  unfold fn_X16_overAll_B351
  exact (LkP.xc (lkp_fn_X16_isGood K h_z_113 g_h0) (fun z_114 r_115 h_z_114 => (LkP.ite (lkp_fn_X16_overAll_B365 K h_z_114 g_h0 (fun z9 q1 hk_z9 => (hko_ko305 _ _ hk_z9 ))) (LkP.xc (lkp_fn_X16_overList K h_z_114 g_h0) (fun z_126 _ h_z_126 => (lkp_fn_X16_overAll_B365 K h_z_126 g_h0 (fun z9 q1 hk_z9 => (hko_ko305 _ _ hk_z9 ))))))))
theorem lkp_fn_X16_overAll_L305 {F : Nat} {sh : Nat → Nat × Nat} {n : Nat} {h0 : Nat} (K : Kp Q G) (g_h0 : G h0) : ∀ (f : Nat) (v1 : St) (v2 : Int32), Q v1 → LkP Q (fn_X16_overAll_L305 F sh n h0 f v1 v2) := by
  intro f
  induction f with
  | zero => intros; exact LkP.none
  | succ f_41 ih =>
    intro z_40 p_39 h_z_40
    exact (LkP.ite (lkp_fn_X16_overAll_B385 K h_z_40 g_h0) (LkP.xc (lkp_fn_X16_isGood K h_z_40 g_h0) (fun z_99 r_100 h_z_99 => (LkP.ite (lkp_fn_X16_overAll_B385 K h_z_99 g_h0) (LkP.xl (fun k_103 q => have g_k_103 := K.2.2.2.2.2 _ _ _ _ h_z_99 g_h0 q; (LkP.xg (LkP.lts (K.1 _ _ _ _ h_z_99 g_k_103) (fun z_106 h_z_106 => (LkP.xc (lkp_fn_X16_over K h_z_106 g_h0) (fun z_107 r_108 h_z_107 => (LkP.xc (lkp_fn_X16_isGood K h_z_107 g_h0) (fun z_110 r_111 h_z_110 => (LkP.ite (lkp_fn_X16_overAll_B351 K h_z_110 g_h0 (fun z9 q1 hk_z9 => (ih _ _ hk_z9 ))) (LkP.xc (lkp_fn_X16_count K h_z_110 g_h0) (fun z_129 r_130 h_z_129 => (lkp_fn_X16_overAll_B351 K h_z_129 g_h0 (fun z9 q1 hk_z9 => (ih _ _ hk_z9 )))))))))))))))))))
theorem lkp_fn_X16_overAll_B300 {F : Nat} {sh : Nat → Nat × Nat} {n : Nat} {h0 : Nat} {z_36 : St} {p_35 : Int32} (K : Kp Q G) (h_z_36 : Q z_36) (g_h0 : G h0) : LkP Q (fn_X16_overAll_B300 F sh n h0 z_36 p_35) := by
  unfold fn_X16_overAll_B300
  exact (LkP.lts (K.1 _ _ _ _ h_z_36 g_h0) (fun z_38 h_z_38 => (lkp_fn_X16_overAll_L305 K g_h0 _ _ _ h_z_38 )))
theorem lkp_fn_X16_overAll_B281 {F : Nat} {sh : Nat → Nat × Nat} {n : Nat} {h0 : Nat} {z_31 : St} (K : Kp Q G) (h_z_31 : Q z_31) (g_h0 : G h0) : LkP Q (fn_X16_overAll_B281 F sh n h0 z_31) := by
  unfold fn_X16_overAll_B281
  exact (LkP.xc (lkp_fn_X16_isGood K h_z_31 g_h0) (fun z_32 r_33 h_z_32 => (LkP.ite (lkp_fn_X16_overAll_B300 K h_z_32 g_h0) (LkP.xc (lkp_fn_X16_count K h_z_32 g_h0) (fun z_133 r_134 h_z_133 => (lkp_fn_X16_overAll_B300 K h_z_133 g_h0))))))
theorem lkp_fn_X16_overAll_B275 {F : Nat} {sh : Nat → Nat × Nat} {n : Nat} {p_28 : Int32} {ko224 : St → Int32 → Option (St × Unit)} {z_151 : St} (K : Kp Q G) (h_z_151 : Q z_151) (hko_ko224 : ∀ (w0 : St) (w1 : Int32), Q w0 → LkP Q (ko224 w0 w1)) : LkP Q (fn_X16_overAll_B275 F sh n p_28 ko224 z_151) := by
  unfold fn_X16_overAll_B275
  exact (hko_ko224 _ _ h_z_151 )
theorem lkp_fn_X16_overAll_L224 {F : Nat} {sh : Nat → Nat × Nat} {n : Nat} {h0 : Nat} (K : Kp Q G) (g_h0 : G h0) : ∀ (f : Nat) (v1 : St) (v2 : Int32), Q v1 → LkP Q (fn_X16_overAll_L224 F sh n h0 f v1 v2) := by
  intro f
  induction f with
  | zero => intros; exact LkP.none
  | succ f_30 ih =>
    intro z_29 p_28 h_z_29
    exact (LkP.ite (lkp_fn_X16_overAll_B281 K h_z_29 g_h0) (LkP.xc (lkp_fn_X16_isGood K h_z_29 g_h0) (fun z_137 r_138 h_z_137 => (LkP.ite (lkp_fn_X16_overAll_B281 K h_z_137 g_h0) (LkP.xl (fun k_141 q => have g_k_141 := K.2.2.2.2.2 _ _ _ _ h_z_137 g_h0 q; (LkP.xg (LkP.lts (K.1 _ _ _ _ h_z_137 g_k_141) (fun z_144 h_z_144 => (LkP.xc (lkp_fn_X16_over K h_z_144 g_h0) (fun z_145 r_146 h_z_145 => (LkP.xc (lkp_fn_X16_isGood K h_z_145 g_h0) (fun z_148 r_149 h_z_148 => (LkP.ite (lkp_fn_X16_overAll_B275 K h_z_148 (fun z9 q1 hk_z9 => (ih _ _ hk_z9 ))) (LkP.xc (lkp_fn_X16_count K h_z_148 g_h0) (fun z_153 r_154 h_z_153 => (lkp_fn_X16_overAll_B275 K h_z_153 (fun z9 q1 hk_z9 => (ih _ _ hk_z9 )))))))))))))))))))
theorem lkp_fn_X16_overAll_B219 {F : Nat} {sh : Nat → Nat × Nat} {n : Nat} {h0 : Nat} {z_25 : St} {p_24 : Int32} (K : Kp Q G) (h_z_25 : Q z_25) (g_h0 : G h0) : LkP Q (fn_X16_overAll_B219 F sh n h0 z_25 p_24) := by
  unfold fn_X16_overAll_B219
  exact (LkP.lts (K.1 _ _ _ _ h_z_25 g_h0) (fun z_27 h_z_27 => (lkp_fn_X16_overAll_L224 K g_h0 _ _ _ h_z_27 )))
theorem lkp_fn_X16_overAll_B200 {F : Nat} {sh : Nat → Nat × Nat} {n : Nat} {h0 : Nat} {z_20 : St} (K : Kp Q G) (h_z_20 : Q z_20) (g_h0 : G h0) : LkP Q (fn_X16_overAll_B200 F sh n h0 z_20) := by
  unfold fn_X16_overAll_B200
  exact (LkP.xc (lkp_fn_X16_isGood K h_z_20 g_h0) (fun z_21 r_22 h_z_21 => (LkP.ite (lkp_fn_X16_overAll_B219 K h_z_21 g_h0) (LkP.xc (lkp_fn_X16_count K h_z_21 g_h0) (fun z_157 r_158 h_z_157 => (lkp_fn_X16_overAll_B219 K h_z_157 g_h0))))))
theorem lkp_fn_X16_overAll_B194 {F : Nat} {sh : Nat → Nat × Nat} {n : Nat} {p_17 : Int32} {ko117 : St → Int32 → Option (St × Unit)} {z_180 : St} (K : Kp Q G) (h_z_180 : Q z_180) (hko_ko117 : ∀ (w0 : St) (w1 : Int32), Q w0 → LkP Q (ko117 w0 w1)) : LkP Q (fn_X16_overAll_B194 F sh n p_17 ko117 z_180) := by
  unfold fn_X16_overAll_B194
  exact (hko_ko117 _ _ h_z_180 )
theorem lkp_fn_X16_overAll_L171 {F : Nat} {sh : Nat → Nat × Nat} {n : Nat} {p_175 : Int32} {p_17 : Int32} {h0 : Nat} {ko117 : St → Int32 → Option (St × Unit)} (K : Kp Q G) (g_h0 : G h0) (hko_ko117 : ∀ (w0 : St) (w1 : Int32), Q w0 → LkP Q (ko117 w0 w1)) : ∀ (f : Nat) (v1 : St) (v2 : Int32), Q v1 → LkP Q (fn_X16_overAll_L171 F sh n p_175 p_17 h0 ko117 f v1 v2) := by
  intro f
  induction f with
  | zero => intros; exact LkP.none
  | succ f_179 ih =>
    intro z_178 p_177 h_z_178
    exact (LkP.ite (lkp_fn_X16_overAll_B194 K h_z_178 (fun z9 q1 hk_z9 => (hko_ko117 _ _ hk_z9 ))) (LkP.xc (lkp_fn_X16_isGood K h_z_178 g_h0) (fun z_182 r_183 h_z_182 => (LkP.ite (lkp_fn_X16_overAll_B194 K h_z_182 (fun z9 q1 hk_z9 => (hko_ko117 _ _ hk_z9 ))) (LkP.xc (lkp_fn_X16_overType K h_z_182 g_h0) (fun z_186 _ h_z_186 => (ih _ _ h_z_186 )))))))
theorem lkp_fn_X16_overAll_B168 {F : Nat} {sh : Nat → Nat × Nat} {n : Nat} {p_17 : Int32} {h0 : Nat} {ko117 : St → Int32 → Option (St × Unit)} {z_176 : St} {p_175 : Int32} (K : Kp Q G) (h_z_176 : Q z_176) (g_h0 : G h0) (hko_ko117 : ∀ (w0 : St) (w1 : Int32), Q w0 → LkP Q (ko117 w0 w1)) : LkP Q (fn_X16_overAll_B168 F sh n p_17 h0 ko117 z_176 p_175) := by
  unfold fn_X16_overAll_B168
  exact (lkp_fn_X16_overAll_L171 K g_h0 (fun z9 q1 hk_z9 => (hko_ko117 _ _ hk_z9 )) _ _ _ h_z_176 )
theorem lkp_fn_X16_overAll_L117 {F : Nat} {sh : Nat → Nat × Nat} {n : Nat} {h0 : Nat} (K : Kp Q G) (g_h0 : G h0) : ∀ (f : Nat) (v1 : St) (v2 : Int32), Q v1 → LkP Q (fn_X16_overAll_L117 F sh n h0 f v1 v2) := by
  intro f
  induction f with
  | zero => intros; exact LkP.none
  | succ f_19 ih =>
    intro z_18 p_17 h_z_18
    exact (LkP.ite (lkp_fn_X16_overAll_B200 K h_z_18 g_h0) (LkP.xc (lkp_fn_X16_isGood K h_z_18 g_h0) (fun z_161 r_162 h_z_161 => (LkP.ite (lkp_fn_X16_overAll_B200 K h_z_161 g_h0) (LkP.xl (fun k_165 q => have g_k_165 := K.2.2.2.2.2 _ _ _ _ h_z_161 g_h0 q; (LkP.xg (LkP.lts (K.1 _ _ _ _ h_z_161 g_k_165) (fun z_168 h_z_168 => (LkP.xc (lkp_fn_X16_count K h_z_168 g_h0) (fun z_169 r_170 h_z_169 => (LkP.xc (lkp_fn_X16_isGood K h_z_169 g_h0) (fun z_172 r_173 h_z_172 => (LkP.ite (lkp_fn_X16_overAll_B168 K h_z_172 g_h0 (fun z9 q1 hk_z9 => (ih _ _ hk_z9 ))) (LkP.xc (lkp_fn_X16_count K h_z_172 g_h0) (fun z_189 r_190 h_z_189 => (lkp_fn_X16_overAll_B168 K h_z_189 g_h0 (fun z9 q1 hk_z9 => (ih _ _ hk_z9 )))))))))))))))))))
theorem lkp_fn_X16_overAll_B112 {F : Nat} {sh : Nat → Nat × Nat} {n : Nat} {h0 : Nat} {z_14 : St} {p_13 : Int32} (K : Kp Q G) (h_z_14 : Q z_14) (g_h0 : G h0) : LkP Q (fn_X16_overAll_B112 F sh n h0 z_14 p_13) := by
  unfold fn_X16_overAll_B112
  exact (LkP.lts (K.1 _ _ _ _ h_z_14 g_h0) (fun z_16 h_z_16 => (lkp_fn_X16_overAll_L117 K g_h0 _ _ _ h_z_16 )))
theorem lkp_fn_X16_overAll_B93 {F : Nat} {sh : Nat → Nat × Nat} {n : Nat} {h0 : Nat} {z_9 : St} (K : Kp Q G) (h_z_9 : Q z_9) (g_h0 : G h0) : LkP Q (fn_X16_overAll_B93 F sh n h0 z_9) := by
  unfold fn_X16_overAll_B93
  exact (LkP.xc (lkp_fn_X16_isGood K h_z_9 g_h0) (fun z_10 r_11 h_z_10 => (LkP.ite (lkp_fn_X16_overAll_B112 K h_z_10 g_h0) (LkP.xc (lkp_fn_X16_count K h_z_10 g_h0) (fun z_193 r_194 h_z_193 => (lkp_fn_X16_overAll_B112 K h_z_193 g_h0))))))
theorem lkp_fn_X16_overAll_B80 {F : Nat} {sh : Nat → Nat × Nat} {n : Nat} {h0 : Nat} {z_4 : St} (K : Kp Q G) (h_z_4 : Q z_4) (g_h0 : G h0) : LkP Q (fn_X16_overAll_B80 F sh n h0 z_4) := by
  unfold fn_X16_overAll_B80
  exact (LkP.xg (LkP.xc (lkp_fn_X16_isGood K h_z_4 g_h0) (fun z_5 r_6 h_z_5 => (LkP.ite (lkp_fn_X16_overAll_B93 K h_z_5 g_h0) (LkP.xc (lkp_fn_X16_over K h_z_5 g_h0) (fun z_197 r_198 h_z_197 => (lkp_fn_X16_overAll_B93 K h_z_197 g_h0)))))))
theorem lkp_fn_X16_overAll_B74 {F : Nat} {sh : Nat → Nat × Nat} {n : Nat} {p_1 : Int32} {ko2 : St → Int32 → Option (St × Unit)} {z_214 : St} (K : Kp Q G) (h_z_214 : Q z_214) (hko_ko2 : ∀ (w0 : St) (w1 : Int32), Q w0 → LkP Q (ko2 w0 w1)) : LkP Q (fn_X16_overAll_B74 F sh n p_1 ko2 z_214) := by
  unfold fn_X16_overAll_B74
  exact (hko_ko2 _ _ h_z_214 )
theorem lkp_fn_X16_overAll_B51 {F : Nat} {sh : Nat → Nat × Nat} {n : Nat} {h0 : Nat} {p_1 : Int32} {r_207 : Int32} {ko2 : St → Int32 → Option (St × Unit)} {z_210 : St} {p_209 : Int32} (K : Kp Q G) (h_z_210 : Q z_210) (g_h0 : G h0) (hko_ko2 : ∀ (w0 : St) (w1 : Int32), Q w0 → LkP Q (ko2 w0 w1)) : LkP Q (fn_X16_overAll_B51 F sh n h0 p_1 r_207 ko2 z_210 p_209) := by
  unfold fn_X16_overAll_B51
  exact (LkP.xc (lkp_fn_X16_isGood K h_z_210 g_h0) (fun z_211 r_212 h_z_211 => (LkP.ite (lkp_fn_X16_overAll_B74 K h_z_211 (fun z9 q1 hk_z9 => (hko_ko2 _ _ hk_z9 ))) (LkP.xc (lkp_fn_X16_byteAt K h_z_211 g_h0) (fun z_216 r_217 h_z_216 => (LkP.ite (lkp_fn_X16_overAll_B74 K h_z_216 (fun z9 q1 hk_z9 => (hko_ko2 _ _ hk_z9 ))) (LkP.xc (lkp_fn_X16_fail K h_z_216 g_h0) (fun z_220 _ h_z_220 => (lkp_fn_X16_overAll_B74 K h_z_220 (fun z9 q1 hk_z9 => (hko_ko2 _ _ hk_z9 )))))))))))
theorem lkp_fn_X16_overAll_L2 {F : Nat} {sh : Nat → Nat × Nat} {n : Nat} {h0 : Nat} (K : Kp Q G) (g_h0 : G h0) : ∀ (f : Nat) (v1 : St) (v2 : Int32), Q v1 → LkP Q (fn_X16_overAll_L2 F sh n h0 f v1 v2) := by
  intro f
  induction f with
  | zero => intros; exact LkP.none
  | succ f_3 ih =>
    intro z_2 p_1 h_z_2
    exact (LkP.ite (lkp_fn_X16_overAll_B80 K h_z_2 g_h0) (LkP.xg (LkP.xc (lkp_fn_X16_isGood K h_z_2 g_h0) (fun z_201 r_202 h_z_201 => (LkP.ite (lkp_fn_X16_overAll_B80 K h_z_201 g_h0) (LkP.xc (lkp_fn_X16_over K h_z_201 g_h0) (fun z_206 r_207 h_z_206 => (LkP.ite (lkp_fn_X16_overAll_B51 K h_z_206 g_h0 (fun z9 q1 hk_z9 => (ih _ _ hk_z9 ))) (LkP.ite (lkp_fn_X16_overAll_B51 K h_z_206 g_h0 (fun z9 q1 hk_z9 => (ih _ _ hk_z9 ))) (LkP.ite (lkp_fn_X16_overAll_B51 K h_z_206 g_h0 (fun z9 q1 hk_z9 => (ih _ _ hk_z9 ))) (lkp_fn_X16_overAll_B51 K h_z_206 g_h0 (fun z9 q1 hk_z9 => (ih _ _ hk_z9 )))))))))))))
theorem lkp_fn_X16_overAll {F : Nat} {sh : Nat → Nat × Nat} {n : Nat} {z : St} {h0 : Nat} (K : Kp Q G) (h_z : Q z) (g_h0 : G h0) : LkP Q (fn_X16_overAll F sh n z h0) := by
  unfold fn_X16_overAll
  exact (lkp_fn_X16_overAll_L2 K g_h0 _ _ _ h_z )
theorem lkp_fn_X11_root {F : Nat} {sh : Nat → Nat × Nat} {n : Nat} {z : St} {h0 : Nat} {x0 : Int32} (K : Kp Q G) (h_z : Q z) (g_h0 : G h0) : LkP Q (fn_X11_root F sh n z h0 x0) := by
  unfold fn_X11_root
  exact (LkP.ite (LkP.ret h_z) (LkP.ite (LkP.xg (LkP.xl (fun k_4 q => have g_k_4 := K.2.2.2.2.2 _ _ _ _ h_z g_h0 q; (LkP.xg (LkP.ite (LkP.xl (fun k_7 q => have g_k_7 := K.2.2.2.2.2 _ _ _ _ h_z g_h0 q; (LkP.xg (LkP.xl (fun k_9 q => have g_k_9 := K.2.2.2.2.2 _ _ _ _ h_z g_k_7 q; (LkP.xg (LkP.ret h_z))))))) (LkP.xl (fun k_11 q => have g_k_11 := K.2.2.2.2.2 _ _ _ _ h_z g_h0 q; (LkP.xl (fun k_12 q => have g_k_12 := K.2.2.2.2.2 _ _ _ _ h_z g_h0 q; (LkP.xg (LkP.xc (lkp_fn_X9_rebuild K h_z g_k_11 g_k_12) (fun z_13 _ h_z_13 => (LkP.xl (fun k_16 q => have g_k_16 := K.2.2.2.2.2 _ _ _ _ h_z_13 g_h0 q; (LkP.xg (LkP.xl (fun k_18 q => have g_k_18 := K.2.2.2.2.2 _ _ _ _ h_z_13 g_k_16 q; (LkP.xg (LkP.ret h_z_13))))))))))))))))))) (LkP.ret h_z)))
theorem lkp_fn_X18_isSameList_L33 {F : Nat} {sh : Nat → Nat × Nat} {n : Nat} {r_2 : Int32} {x0 : Nat} {x1 : Int32} {x4 : Int32} {h0 : Nat} {x2 : Int32} {x3 : Int32} (K : Kp Q G) (g_x0 : G x0) (g_h0 : G h0) : ∀ (f : Nat) (v1 : St) (v2 : Int32) (v3 : Int32), Q v1 → LkP Q (fn_X18_isSameList_L33 F sh n r_2 x0 x1 x4 h0 x2 x3 f v1 v2 v3) := by
  intro f
  induction f with
  | zero => intros; exact LkP.none
  | succ f_14 ih =>
    intro z_13 p_11 p_12 h_z_13
    exact (LkP.ite (LkP.xg (LkP.ret h_z_13)) (LkP.ite (LkP.xg (LkP.ret h_z_13)) (LkP.xc (lkp_fn_X16_listed K h_z_13 g_x0) (fun z_19 r_20 h_z_19 => (LkP.xc (lkp_fn_X18_typeThere K h_z_19 g_h0) (fun z_22 r_23 h_z_22 => (LkP.xc (lkp_fn_X18_isSame K h_z_22 g_h0 g_x0) (fun z_25 r_26 h_z_25 => (ih _ _ _ h_z_25 )))))))))
theorem lkp_fn_X18_isSameList_B28 {F : Nat} {sh : Nat → Nat × Nat} {n : Nat} {r_2 : Int32} {x0 : Nat} {x1 : Int32} {x4 : Int32} {h0 : Nat} {x2 : Int32} {x3 : Int32} {z_10 : St} {p_9 : Int32} (K : Kp Q G) (h_z_10 : Q z_10) (g_x0 : G x0) (g_h0 : G h0) : LkP Q (fn_X18_isSameList_B28 F sh n r_2 x0 x1 x4 h0 x2 x3 z_10 p_9) := by
  unfold fn_X18_isSameList_B28
  exact (lkp_fn_X18_isSameList_L33 K g_x0 g_h0 _ _ _ _ h_z_10 )
theorem lkp_fn_X18_isSameList {F : Nat} {sh : Nat → Nat × Nat} {n : Nat} {z : St} {h0 : Nat} {x0 : Nat} {x1 : Int32} {x2 : Int32} {x3 : Int32} {x4 : Int32} (K : Kp Q G) (h_z : Q z) (g_h0 : G h0) (g_x0 : G x0) : LkP Q (fn_X18_isSameList F sh n z h0 x0 x1 x2 x3 x4) := by
  unfold fn_X18_isSameList
  exact (LkP.xg (LkP.xc (lkp_fn_X16_many K h_z g_x0) (fun z_1 r_2 h_z_1 => (LkP.xg (LkP.xc (lkp_fn_X18_manyThere K h_z_1 g_h0) (fun z_5 r_6 h_z_5 => (LkP.ite (lkp_fn_X18_isSameList_B28 K h_z_5 g_x0 g_h0) (lkp_fn_X18_isSameList_B28 K h_z_5 g_x0 g_h0))))))))
theorem lkp_fn_X16_read_B109 {F : Nat} {sh : Nat → Nat × Nat} {n : Nat} {p_22 : Int32} {ko71 : St → Int32 → Option (St × Int32)} {z_33 : St} (K : Kp Q G) (h_z_33 : Q z_33) (hko_ko71 : ∀ (w0 : St) (w1 : Int32), Q w0 → LkP Q (ko71 w0 w1)) : LkP Q (fn_X16_read_B109 F sh n p_22 ko71 z_33) := by
  unfold fn_X16_read_B109
  exact (hko_ko71 _ _ h_z_33 )
theorem lkp_fn_X16_read_L71 {F : Nat} {sh : Nat → Nat × Nat} {n : Nat} {h0 : Nat} (K : Kp Q G) (g_h0 : G h0) : ∀ (f : Nat) (v1 : St) (v2 : Int32), Q v1 → LkP Q (fn_X16_read_L71 F sh n h0 f v1 v2) := by
  intro f
  induction f with
  | zero => intros; exact LkP.none
  | succ f_24 ih =>
    intro z_23 p_22 h_z_23
    exact (LkP.ite (LkP.ret h_z_23) (LkP.xc (lkp_fn_X16_isGood K h_z_23 g_h0) (fun z_26 r_27 h_z_26 => (LkP.ite (LkP.ret h_z_26) (LkP.xc (lkp_fn_X16_isRound K h_z_26 g_h0) (fun z_30 r_31 h_z_30 => (LkP.ite (lkp_fn_X16_read_B109 K h_z_30 (fun z9 q4 hk_z9 => (ih _ _ hk_z9 ))) (LkP.xl (fun k_35 q => have g_k_35 := K.2.2.2.2.2 _ _ _ _ h_z_30 g_h0 q; (LkP.xg (LkP.xc (lkp_fn_X16_fail K h_z_30 g_h0) (fun z_37 _ h_z_37 => (lkp_fn_X16_read_B109 K h_z_37 (fun z9 q4 hk_z9 => (ih _ _ hk_z9 )))))))))))))))
theorem lkp_fn_X16_read_B68 {F : Nat} {sh : Nat → Nat × Nat} {n : Nat} {h0 : Nat} {z_21 : St} (K : Kp Q G) (h_z_21 : Q z_21) (g_h0 : G h0) : LkP Q (fn_X16_read_B68 F sh n h0 z_21) := by
  unfold fn_X16_read_B68
  exact (lkp_fn_X16_read_L71 K g_h0 _ _ _ h_z_21 )
theorem lkp_fn_X16_read_L8 {F : Nat} {sh : Nat → Nat × Nat} {n : Nat} {x2 : Int32} {h0 : Nat} {x0 : Nat} {x1 : Int32} (K : Kp Q G) (g_h0 : G h0) (g_x0 : G x0) : ∀ (f : Nat) (v1 : St) (v2 : Int32), Q v1 → LkP Q (fn_X16_read_L8 F sh n x2 h0 x0 x1 f v1 v2) := by
  intro f
  induction f with
  | zero => intros; exact LkP.none
  | succ f_6 ih =>
    intro z_5 p_4 h_z_5
    exact (LkP.ite (LkP.lts (K.1 _ _ _ _ h_z_5 g_h0) (fun z_9 h_z_9 => (LkP.lts (K.1 _ _ _ _ h_z_9 g_h0) (fun z_11 h_z_11 => (LkP.lts (K.1 _ _ _ _ h_z_11 g_h0) (fun z_13 h_z_13 => (LkP.lts (K.1 _ _ _ _ h_z_13 g_h0) (fun z_15 h_z_15 => (LkP.xc (lkp_fn_X16_overAll K h_z_15 g_h0) (fun z_16 _ h_z_16 => (LkP.xc (lkp_fn_X16_isGood K h_z_16 g_h0) (fun z_18 r_19 h_z_18 => (LkP.ite (lkp_fn_X16_read_B68 K h_z_18 g_h0) (LkP.xc (lkp_fn_X16_lookAll K h_z_18 g_h0) (fun z_40 _ h_z_40 => (lkp_fn_X16_read_B68 K h_z_40 g_h0)))))))))))))))) (LkP.xl (fun k_42 q => have g_k_42 := K.2.2.2.2.2 _ _ _ _ h_z_5 g_h0 q; (LkP.xg (LkP.xg (LkP.lts (K.1 _ _ _ _ h_z_5 g_k_42) (fun z_46 h_z_46 => (ih _ _ h_z_46 ))))))))
theorem lkp_fn_X16_read {F : Nat} {sh : Nat → Nat × Nat} {n : Nat} {z : St} {h0 : Nat} {x0 : Nat} {x1 : Int32} {x2 : Int32} (K : Kp Q G) (h_z : Q z) (g_h0 : G h0) (g_x0 : G x0) : LkP Q (fn_X16_read F sh n z h0 x0 x1 x2) := by
  unfold fn_X16_read
  exact (LkP.xg (LkP.lts (K.1 _ _ _ _ h_z g_h0) (fun z_3 h_z_3 => (lkp_fn_X16_read_L8 K g_h0 g_x0 _ _ _ h_z_3 ))))
theorem lkp_fn_X11_execute_B109 {F : Nat} {sh : Nat → Nat × Nat} {n : Nat} {p_5 : Int32} {ko21 : St → Int32 → Int32 → Option (St × Int32)} {z_22 : St} {p_21 : Int32} (K : Kp Q G) (h_z_22 : Q z_22) (hko_ko21 : ∀ (w0 : St) (w1 : Int32) (w2 : Int32), Q w0 → LkP Q (ko21 w0 w1 w2)) : LkP Q (fn_X11_execute_B109 F sh n p_5 ko21 z_22 p_21) := by
  unfold fn_X11_execute_B109
  exact (hko_ko21 _ _ _ h_z_22 )
theorem lkp_fn_X11_execute_B91 {F : Nat} {sh : Nat → Nat × Nat} {n : Nat} {h0 : Nat} {k_17 : Nat} {p_5 : Int32} {p_4 : Int32} {ko21 : St → Int32 → Int32 → Option (St × Int32)} {z_29 : St} (K : Kp Q G) (h_z_29 : Q z_29) (g_h0 : G h0) (g_k_17 : G k_17) (hko_ko21 : ∀ (w0 : St) (w1 : Int32) (w2 : Int32), Q w0 → LkP Q (ko21 w0 w1 w2)) : LkP Q (fn_X11_execute_B91 F sh n h0 k_17 p_5 p_4 ko21 z_29) := by
  unfold fn_X11_execute_B91
  exact (LkP.xl (fun k_30 q => have g_k_30 := K.2.2.2.2.2 _ _ _ _ h_z_29 g_h0 q; (LkP.xg (LkP.xc (lkp_fn_X7_settle K h_z_29 g_k_30 g_k_17) (fun z_31 _ h_z_31 => (LkP.ite (lkp_fn_X11_execute_B109 K h_z_31 (fun z9 q1 q2 hk_z9 => (hko_ko21 _ _ _ hk_z9 ))) (lkp_fn_X11_execute_B109 K h_z_31 (fun z9 q1 q2 hk_z9 => (hko_ko21 _ _ _ hk_z9 )))))))))
theorem lkp_fn_X11_execute_L21 {F : Nat} {sh : Nat → Nat × Nat} {n : Nat} {h0 : Nat} (K : Kp Q G) (g_h0 : G h0) : ∀ (f : Nat) (v1 : St) (v2 : Int32) (v3 : Int32), Q v1 → LkP Q (fn_X11_execute_L21 F sh n h0 f v1 v2 v3) := by
  intro f
  induction f with
  | zero => intros; exact LkP.none
  | succ f_7 ih =>
    intro z_6 p_4 p_5 h_z_6
    exact (LkP.ite (LkP.lts (K.1 _ _ _ _ h_z_6 g_h0) (fun z_10 h_z_10 => (LkP.xl (fun k_11 q => have g_k_11 := K.2.2.2.2.2 _ _ _ _ h_z_10 g_h0 q; (LkP.xg (LkP.lts (K.1 _ _ _ _ h_z_10 g_k_11) (fun z_14 h_z_14 => (LkP.ret h_z_14)))))))) (LkP.xl (fun k_15 q => have g_k_15 := K.2.2.2.2.2 _ _ _ _ h_z_6 g_h0 q; (LkP.xg (LkP.xl (fun k_17 q => have g_k_17 := K.2.2.2.2.2 _ _ _ _ h_z_6 g_k_15 q; (LkP.xc (lkp_fn_X11_refusalOf K h_z_6 g_h0 g_k_17) (fun z_18 r_19 h_z_18 => (LkP.ite (LkP.xl (fun k_24 q => have g_k_24 := K.2.2.2.2.2 _ _ _ _ h_z_18 g_h0 q; (LkP.xg (LkP.xc (lkp_fn_X7_charge K h_z_18 g_k_24 g_k_17) (fun z_25 _ h_z_25 => (LkP.xg (LkP.ite (LkP.xc (lkp_fn_X11_takeModule K h_z_25 g_h0 g_k_17) (fun z_36 _ h_z_36 => (lkp_fn_X11_execute_B91 K h_z_36 g_h0 g_k_17 (fun z9 q1 q2 hk_z9 => (ih _ _ _ hk_z9 ))))) (LkP.xl (fun k_38 q => have g_k_38 := K.2.2.2.2.2 _ _ _ _ h_z_25 g_h0 q; (LkP.xg (LkP.xc (lkp_fn_X4_run K h_z_25 g_k_38 g_k_17) (fun z_39 _ h_z_39 => (lkp_fn_X11_execute_B91 K h_z_39 g_h0 g_k_17 (fun z9 q1 q2 hk_z9 => (ih _ _ _ hk_z9 ))))))))))))))) (LkP.xg (LkP.xc (lkp_fn_X8_end K h_z_18 g_k_17) (fun z_42 _ h_z_42 => (lkp_fn_X11_execute_B109 K h_z_42 (fun z9 q1 q2 hk_z9 => (ih _ _ _ hk_z9 )))))))))))))))
theorem lkp_fn_X11_execute {F : Nat} {sh : Nat → Nat × Nat} {n : Nat} {z : St} {h0 : Nat} (K : Kp Q G) (h_z : Q z) (g_h0 : G h0) : LkP Q (fn_X11_execute F sh n z h0) := by
  unfold fn_X11_execute
  exact (LkP.xg (LkP.ite (LkP.ltv (fun v_3 => (lkp_fn_X11_execute_L21 K g_h0 _ _ _ _ h_z ))) (LkP.ret h_z)))
theorem lkp_fn_X13_operate_B59 {F : Nat} {sh : Nat → Nat × Nat} {n : Nat} {h0 : Nat} {z_56 : St} (K : Kp Q G) (h_z_56 : Q z_56) (g_h0 : G h0) : LkP Q (fn_X13_operate_B59 F sh n h0 z_56) := by
  unfold fn_X13_operate_B59
  exact (LkP.xg (LkP.ite (LkP.xc (lkp_fn_X13_need K h_z_56 g_h0) (fun z_61 _ h_z_61 => (LkP.ret h_z_61))) (LkP.xc (lkp_fn_X13_need K h_z_56 g_h0) (fun z_59 _ h_z_59 => (LkP.ret h_z_59)))))
theorem lkp_fn_X13_operate {F : Nat} {sh : Nat → Nat × Nat} {n : Nat} {z : St} {h0 : Nat} {x0 : Int32} {x1 : Int32} {x2 : Int32} (K : Kp Q G) (h_z : Q z) (g_h0 : G h0) : LkP Q (fn_X13_operate F sh n z h0 x0 x1 x2) := by
  unfold fn_X13_operate
  exact (LkP.ite (LkP.xg (LkP.xc (lkp_fn_X13_take K h_z g_h0) (fun z_70 _ h_z_70 => (LkP.ite (LkP.xc (lkp_fn_X13_has K h_z_70 g_h0) (fun z_74 r_75 h_z_74 => (LkP.xc (lkp_fn_X13_need K h_z_74 g_h0) (fun z_77 _ h_z_77 => (LkP.ret h_z_77))))) (LkP.ret h_z_70))))) (LkP.ite (LkP.xg (LkP.xc (lkp_fn_X13_giveBack K h_z g_h0) (fun z_67 _ h_z_67 => (LkP.ret h_z_67)))) (LkP.ite (LkP.ite (LkP.ite (LkP.ite (LkP.ite (LkP.ite (LkP.xg (LkP.xc (lkp_fn_X13_call K h_z g_h0) (fun z_29 _ h_z_29 => (LkP.ret h_z_29)))) (LkP.ite (LkP.ret h_z) (LkP.ite (LkP.ite (LkP.xg (LkP.xc (lkp_fn_X13_take_ K h_z g_h0) (fun z_23 _ h_z_23 => (LkP.ret h_z_23)))) (LkP.ite (LkP.xg (LkP.xc (lkp_fn_X13_give K h_z g_h0) (fun z_20 _ h_z_20 => (LkP.ret h_z_20)))) (LkP.ite (LkP.xg (LkP.xc (lkp_fn_X13_onVector K h_z g_h0) (fun z_14 _ h_z_14 => (LkP.ret h_z_14)))) (LkP.xg (LkP.xc (lkp_fn_X13_onResource K h_z g_h0) (fun z_17 _ h_z_17 => (LkP.ret h_z_17))))))) (LkP.xg (LkP.xc (lkp_fn_X13_onNumbers K h_z g_h0) (fun z_26 _ h_z_26 => (LkP.ret h_z_26))))))) (LkP.ite (LkP.xg (LkP.xc (lkp_fn_X13_pack K h_z g_h0) (fun z_36 _ h_z_36 => (LkP.ret h_z_36)))) (LkP.xg (LkP.xc (lkp_fn_X13_pack K h_z g_h0) (fun z_33 _ h_z_33 => (LkP.ret h_z_33)))))) (LkP.xg (LkP.xc (lkp_fn_X13_onReference K h_z g_h0) (fun z_39 _ h_z_39 => (LkP.ret h_z_39))))) (LkP.xg (LkP.xc (lkp_fn_X13_onLocal K h_z g_h0) (fun z_42 _ h_z_42 => (LkP.ret h_z_42))))) (LkP.ite (LkP.ite (LkP.xg (LkP.xc (lkp_fn_X13_give K h_z g_h0) (fun z_47 _ h_z_47 => (LkP.ret h_z_47)))) (LkP.xg (LkP.xc (lkp_fn_X13_give K h_z g_h0) (fun z_50 _ h_z_50 => (LkP.ret h_z_50))))) (LkP.xg (LkP.xc (lkp_fn_X13_give K h_z g_h0) (fun z_53 _ h_z_53 => (LkP.ret h_z_53)))))) (LkP.ite (lkp_fn_X13_operate_B59 K h_z g_h0) (LkP.xg (LkP.xc (lkp_fn_X13_take_ K h_z g_h0) (fun z_64 _ h_z_64 => (lkp_fn_X13_operate_B59 K h_z_64 g_h0))))))))
theorem lkp_fn_X18_one_B305 {F : Nat} {sh : Nat → Nat × Nat} {n : Nat} {r_31 : Int32} {h0 : Nat} {z_56 : St} (K : Kp Q G) (h_z_56 : Q z_56) (g_h0 : G h0) : LkP Q (fn_X18_one_B305 F sh n r_31 h0 z_56) := by
  unfold fn_X18_one_B305
  exact (LkP.ite (LkP.xc (lkp_fn_X18_shift K h_z_56 g_h0) (fun z_60 _ h_z_60 => (LkP.ret h_z_60))) (LkP.xc (lkp_fn_X18_shift K h_z_56 g_h0) (fun z_58 _ h_z_58 => (LkP.ret h_z_58))))
theorem lkp_fn_X18_one_B443 {F : Nat} {sh : Nat → Nat × Nat} {n : Nat} {r_31 : Int32} {h0 : Nat} {r_41 : Int64} {z_71 : St} (K : Kp Q G) (h_z_71 : Q z_71) (g_h0 : G h0) : LkP Q (fn_X18_one_B443 F sh n r_31 h0 r_41 z_71) := by
  unfold fn_X18_one_B443
  exact (LkP.ite (LkP.ret h_z_71) (LkP.xc (lkp_fn_X18_onVector K h_z_71 g_h0) (fun z_73 _ h_z_73 => (LkP.ret h_z_73))))
theorem lkp_fn_X18_one_B402 {F : Nat} {sh : Nat → Nat × Nat} {n : Nat} {r_31 : Int32} {h0 : Nat} {r_41 : Int64} {r_36 : Int64} {z_69 : St} (K : Kp Q G) (h_z_69 : Q z_69) (g_h0 : G h0) : LkP Q (fn_X18_one_B402 F sh n r_31 h0 r_41 r_36 z_69) := by
  unfold fn_X18_one_B402
  exact (LkP.ite (LkP.xc (lkp_fn_X18_takeLong K h_z_69 g_h0) (fun z_79 r_80 h_z_79 => (LkP.xc (lkp_fn_X18_end K h_z_79 g_h0) (fun z_82 _ h_z_82 => (LkP.ret h_z_82))))) (LkP.ite (lkp_fn_X18_one_B443 K h_z_69 g_h0) (LkP.ite (lkp_fn_X18_one_B443 K h_z_69 g_h0) (LkP.xc (lkp_fn_X18_onResource K h_z_69 g_h0) (fun z_77 _ h_z_77 => (LkP.ret h_z_77))))))
theorem lkp_fn_X18_one_B379 {F : Nat} {sh : Nat → Nat × Nat} {n : Nat} {r_31 : Int32} {h0 : Nat} {r_41 : Int64} {r_36 : Int64} {z_68 : St} (K : Kp Q G) (h_z_68 : Q z_68) (g_h0 : G h0) : LkP Q (fn_X18_one_B379 F sh n r_31 h0 r_41 r_36 z_68) := by
  unfold fn_X18_one_B379
  exact (LkP.ite (lkp_fn_X18_one_B402 K h_z_68 g_h0) (LkP.ite (lkp_fn_X18_one_B402 K h_z_68 g_h0) (LkP.xc (lkp_fn_X18_convert K h_z_68 g_h0) (fun z_86 _ h_z_86 => (LkP.ret h_z_86)))))
theorem lkp_fn_X18_one_B60 {F : Nat} {sh : Nat → Nat × Nat} {n : Nat} {h0 : Nat} {v_7 : Int32} {v_4 : Int32} {z_20 : St} (K : Kp Q G) (h_z_20 : Q z_20) (g_h0 : G h0) : LkP Q (fn_X18_one_B60 F sh n h0 v_7 v_4 z_20) := by
  unfold fn_X18_one_B60
  exact (LkP.xc (lkp_fn_X18_spend K h_z_20 g_h0) (fun z_21 r_22 h_z_21 => (LkP.ite (LkP.ret h_z_21) (LkP.xl (fun k_25 q => have g_k_25 := K.2.2.2.2.2 _ _ _ _ h_z_21 g_h0 q; (LkP.xg (LkP.lts (K.1 _ _ _ _ h_z_21 g_k_25) (fun z_28 h_z_28 => (LkP.xl (fun k_29 q => have g_k_29 := K.2.2.2.2.2 _ _ _ _ h_z_28 g_h0 q; (LkP.xg (LkP.xc (lkp_fn_X16_operation K h_z_28 g_k_29) (fun z_30 r_31 h_z_30 => (LkP.xl (fun k_34 q => have g_k_34 := K.2.2.2.2.2 _ _ _ _ h_z_30 g_h0 q; (LkP.xg (LkP.xc (lkp_fn_X16_operand K h_z_30 g_k_34) (fun z_35 r_36 h_z_35 => (LkP.xl (fun k_39 q => have g_k_39 := K.2.2.2.2.2 _ _ _ _ h_z_35 g_h0 q; (LkP.xg (LkP.xc (lkp_fn_X16_operand K h_z_35 g_k_39) (fun z_40 r_41 h_z_40 => (LkP.ite (LkP.xl (fun k_117 q => have g_k_117 := K.2.2.2.2.2 _ _ _ _ h_z_40 g_h0 q; (LkP.xg (LkP.ite (LkP.xc (lkp_fn_X18_slip K h_z_40 g_h0) (fun z_122 _ h_z_122 => (LkP.ret h_z_122))) (LkP.lts (K.1 _ _ _ _ h_z_40 g_h0) (fun z_121 h_z_121 => (LkP.ret h_z_121))))))) (LkP.ite (LkP.xc (lkp_fn_X18_giveBack K h_z_40 g_h0) (fun z_115 _ h_z_115 => (LkP.ret h_z_115))) (LkP.ite (LkP.ite (LkP.xc (lkp_fn_X18_constant K h_z_40 g_h0) (fun z_48 _ h_z_48 => (LkP.ret h_z_48))) (LkP.ite (LkP.xc (lkp_fn_X18_constant K h_z_40 g_h0) (fun z_111 _ h_z_111 => (LkP.ret h_z_111))) (LkP.ite (LkP.ite (LkP.ite (LkP.xc (lkp_fn_X18_pack K h_z_40 g_h0) (fun z_105 _ h_z_105 => (LkP.ret h_z_105))) (LkP.ite (LkP.xc (lkp_fn_X18_unpack K h_z_40 g_h0) (fun z_103 _ h_z_103 => (LkP.ret h_z_103))) (LkP.ite (LkP.xc (lkp_fn_X18_enterCall K h_z_40 g_h0) (fun z_101 _ h_z_101 => (LkP.ret h_z_101))) (LkP.ite (lkp_fn_X18_one_B305 K h_z_40 g_h0) (LkP.ite (lkp_fn_X18_one_B305 K h_z_40 g_h0) (LkP.ite (LkP.xl (fun k_92 q => have g_k_92 := K.2.2.2.2.2 _ _ _ _ h_z_40 g_h0 q; (LkP.xg (LkP.xl (fun k_94 q => have g_k_94 := K.2.2.2.2.2 _ _ _ _ h_z_40 g_k_92 q; (LkP.xc (lkp_fn_X18_take K h_z_40 g_h0) (fun z_95 r_96 h_z_95 => (LkP.xg (LkP.xc (lkp_fn_X18_make K h_z_95 g_h0) (fun z_99 _ h_z_99 => (LkP.ret h_z_99))))))))))) (LkP.ite (LkP.xc (lkp_fn_X18_reckon K h_z_40 g_h0) (fun z_66 _ h_z_66 => (LkP.ret h_z_66))) (LkP.ite (lkp_fn_X18_one_B379 K h_z_40 g_h0) (LkP.ite (lkp_fn_X18_one_B379 K h_z_40 g_h0) (LkP.xc (lkp_fn_X18_reckon K h_z_40 g_h0) (fun z_90 _ h_z_90 => (LkP.ret h_z_90)))))))))))) (LkP.xc (lkp_fn_X18_onReference K h_z_40 g_h0) (fun z_107 _ h_z_107 => (LkP.ret h_z_107)))) (LkP.xc (lkp_fn_X18_onLocal K h_z_40 g_h0) (fun z_109 _ h_z_109 => (LkP.ret h_z_109)))))) (LkP.xc (lkp_fn_X18_branch K h_z_40 g_h0) (fun z_113 _ h_z_113 => (LkP.ret h_z_113)))))))))))))))))))))))))))))
theorem lkp_fn_X18_one {F : Nat} {sh : Nat → Nat × Nat} {n : Nat} {z : St} {h0 : Nat} (K : Kp Q G) (h_z : Q z) (g_h0 : G h0) : LkP Q (fn_X18_one F sh n z h0) := by
  unfold fn_X18_one
  exact (LkP.xg (LkP.xl (fun k_2 q => have g_k_2 := K.2.2.2.2.2 _ _ _ _ h_z g_h0 q; (LkP.xg (LkP.ltv (fun v_4 => (LkP.xl (fun k_5 q => have g_k_5 := K.2.2.2.2.2 _ _ _ _ h_z g_h0 q; (LkP.xg (LkP.ltv (fun v_7 => (LkP.xl (fun k_8 q => have g_k_8 := K.2.2.2.2.2 _ _ _ _ h_z g_h0 q; (LkP.xl (fun k_9 q => have g_k_9 := K.2.2.2.2.2 _ _ _ _ h_z g_h0 q; (LkP.xg (LkP.xg (LkP.xl (fun k_12 q => have g_k_12 := K.2.2.2.2.2 _ _ _ _ h_z g_k_8 q; (LkP.lts (K.2.2.1 _ _ _ _ h_z g_h0 (some_q g_k_12)) (fun z_14 h_z_14 => (LkP.xl (fun k_15 q => have g_k_15 := K.2.2.2.2.2 _ _ _ _ h_z_14 g_h0 q; (LkP.xg (LkP.xc (lkp_fn_X16_instructions K h_z_14 g_k_15) (fun z_16 r_17 h_z_16 => (LkP.ite (lkp_fn_X18_one_B60 K h_z_16 g_h0) (LkP.xc (lkp_fn_X18_slip K h_z_16 g_h0) (fun z_125 _ h_z_125 => (lkp_fn_X18_one_B60 K h_z_125 g_h0))))))))))))))))))))))))))))))
theorem lkp_fn_X18_isFunctionAs {F : Nat} {sh : Nat → Nat × Nat} {n : Nat} {z : St} {h0 : Nat} {x0 : Nat} {x1 : Int32} (K : Kp Q G) (h_z : Q z) (g_h0 : G h0) (g_x0 : G x0) : LkP Q (fn_X18_isFunctionAs F sh n z h0 x0 x1) := by
  unfold fn_X18_isFunctionAs
  exact (LkP.xg (LkP.xc (lkp_fn_X16_foreignModule K h_z g_x0) (fun z_1 r_2 h_z_1 => (LkP.xc (lkp_fn_X16_foreignNumber K h_z_1 g_x0) (fun z_5 r_6 h_z_5 => (LkP.xg (LkP.xc (lkp_fn_X18_isThere K h_z_5 g_h0) (fun z_8 r_9 h_z_8 => (LkP.ite (LkP.ret h_z_8) (LkP.xc (lkp_fn_X18_flagsThere K h_z_8 g_h0) (fun z_13 r_14 h_z_13 => (LkP.ite (LkP.xc (lkp_fn_X16_flags K h_z_13 g_x0) (fun z_17 r_18 h_z_17 => (LkP.ite (LkP.xc (lkp_fn_X18_isSameList K h_z_17 g_h0 g_x0) (fun z_21 r_22 h_z_21 => (LkP.ite (LkP.ret h_z_21) (LkP.xc (lkp_fn_X18_isSameList K h_z_21 g_h0 g_x0) (fun z_25 r_26 h_z_25 => (LkP.ite (LkP.ret h_z_25) (LkP.ret h_z_25))))))) (LkP.ret h_z_17)))) (LkP.ret h_z_13)))))))))))))
theorem lkp_fn_X13_look_B216 {F : Nat} {sh : Nat → Nat × Nat} {n : Nat} {h0 : Nat} {x0 : Int32} {z_44 : St} {p_43 : Int32} (K : Kp Q G) (h_z_44 : Q z_44) (g_h0 : G h0) : LkP Q (fn_X13_look_B216 F sh n h0 x0 z_44 p_43) := by
  unfold fn_X13_look_B216
  exact (LkP.xc (lkp_fn_X13_need K h_z_44 g_h0) (fun z_45 _ h_z_45 => (LkP.xc (lkp_fn_X13_come K h_z_45 g_h0) (fun z_47 _ h_z_47 => (LkP.ret h_z_47)))))
theorem lkp_fn_X13_look_B178 {F : Nat} {sh : Nat → Nat × Nat} {n : Nat} {r_19 : Int32} {h0 : Nat} {x0 : Int32} {z_35 : St} (K : Kp Q G) (h_z_35 : Q z_35) (g_h0 : G h0) : LkP Q (fn_X13_look_B178 F sh n r_19 h0 x0 z_35) := by
  unfold fn_X13_look_B178
  exact (LkP.ite (LkP.lts (K.1 _ _ _ _ h_z_35 g_h0) (fun z_38 h_z_38 => (LkP.ret h_z_38))) (LkP.ite (LkP.lts (K.1 _ _ _ _ h_z_35 g_h0) (fun z_41 h_z_41 => (LkP.ret h_z_41))) (LkP.ite (LkP.lts (K.1 _ _ _ _ h_z_35 g_h0) (fun z_51 h_z_51 => (LkP.ret h_z_51))) (LkP.ite (lkp_fn_X13_look_B216 K h_z_35 g_h0) (lkp_fn_X13_look_B216 K h_z_35 g_h0)))))
theorem lkp_fn_X13_look_L49 {F : Nat} {sh : Nat → Nat × Nat} {n : Nat} {h0 : Nat} {x0 : Int32} (K : Kp Q G) (g_h0 : G h0) : ∀ (f : Nat) (v1 : St) (v2 : Int32), Q v1 → LkP Q (fn_X13_look_L49 F sh n h0 x0 f v1 v2) := by
  intro f
  induction f with
  | zero => intros; exact LkP.none
  | succ f_15 ih =>
    intro z_14 p_13 h_z_14
    exact (LkP.ite (LkP.xl (fun k_17 q => have g_k_17 := K.2.2.2.2.2 _ _ _ _ h_z_14 g_h0 q; (LkP.xg (LkP.xc (lkp_fn_X16_operation K h_z_14 g_k_17) (fun z_18 r_19 h_z_18 => (LkP.xl (fun k_22 q => have g_k_22 := K.2.2.2.2.2 _ _ _ _ h_z_18 g_h0 q; (LkP.xg (LkP.xc (lkp_fn_X16_operand K h_z_18 g_k_22) (fun z_23 r_24 h_z_23 => (LkP.ltv (fun v_27 => (LkP.xl (fun k_28 q => have g_k_28 := K.2.2.2.2.2 _ _ _ _ h_z_23 g_h0 q; (LkP.xg (LkP.xc (lkp_fn_X16_operand K h_z_23 g_k_28) (fun z_29 r_30 h_z_29 => (LkP.xc (lkp_fn_X13_operate K h_z_29 g_h0) (fun z_33 _ h_z_33 => (LkP.ite (lkp_fn_X13_look_B178 K h_z_33 g_h0) (LkP.ite (lkp_fn_X13_look_B178 K h_z_33 g_h0) (LkP.xc (lkp_fn_X13_come K h_z_33 g_h0) (fun z_54 _ h_z_54 => (lkp_fn_X13_look_B178 K h_z_54 g_h0)))))))))))))))))))))))) (LkP.xl (fun k_56 q => have g_k_56 := K.2.2.2.2.2 _ _ _ _ h_z_14 g_h0 q; (LkP.xl (fun k_57 q => have g_k_57 := K.2.2.2.2.2 _ _ _ _ h_z_14 g_h0 q; (LkP.xg (LkP.xg (LkP.lts (K.1 _ _ _ _ h_z_14 g_k_56) (fun z_61 h_z_61 => (LkP.xl (fun k_62 q => have g_k_62 := K.2.2.2.2.2 _ _ _ _ h_z_61 g_h0 q; (LkP.xl (fun k_63 q => have g_k_63 := K.2.2.2.2.2 _ _ _ _ h_z_61 g_h0 q; (LkP.xg (LkP.xg (LkP.lts (K.2.1 _ _ _ _ h_z_61 g_k_62) (fun z_67 h_z_67 => (LkP.xl (fun k_68 q => have g_k_68 := K.2.2.2.2.2 _ _ _ _ h_z_67 g_h0 q; (LkP.xl (fun k_69 q => have g_k_69 := K.2.2.2.2.2 _ _ _ _ h_z_67 g_h0 q; (LkP.xg (LkP.xg (LkP.lts (K.1 _ _ _ _ h_z_67 g_k_68) (fun z_73 h_z_73 => (ih _ _ h_z_73 ))))))))))))))))))))))))))
theorem lkp_fn_X13_look_B34 {F : Nat} {sh : Nat → Nat × Nat} {n : Nat} {h0 : Nat} {x0 : Int32} {z_9 : St} {p_8 : Int32} (K : Kp Q G) (h_z_9 : Q z_9) (g_h0 : G h0) : LkP Q (fn_X13_look_B34 F sh n h0 x0 z_9 p_8) := by
  unfold fn_X13_look_B34
  exact (LkP.xc (lkp_fn_X13_need K h_z_9 g_h0) (fun z_10 _ h_z_10 => (LkP.ite (lkp_fn_X13_look_L49 K g_h0 _ _ _ h_z_10 ) (LkP.ret h_z_10))))
theorem lkp_fn_X13_look_B29 {F : Nat} {sh : Nat → Nat × Nat} {n : Nat} {h0 : Nat} {x0 : Int32} {z_74 : St} (K : Kp Q G) (h_z_74 : Q z_74) (g_h0 : G h0) : LkP Q (fn_X13_look_B29 F sh n h0 x0 z_74) := by
  unfold fn_X13_look_B29
  exact (lkp_fn_X13_look_B34 K h_z_74 g_h0)
theorem lkp_fn_X13_look {F : Nat} {sh : Nat → Nat × Nat} {n : Nat} {z : St} {h0 : Nat} {x0 : Int32} (K : Kp Q G) (h_z : Q z) (g_h0 : G h0) : LkP Q (fn_X13_look F sh n z h0 x0) := by
  unfold fn_X13_look
  exact (LkP.xg (LkP.xl (fun k_2 q => have g_k_2 := K.2.2.2.2.2 _ _ _ _ h_z g_h0 q; (LkP.xg (LkP.xc (lkp_fn_X13_need K h_z g_h0) (fun z_4 _ h_z_4 => (LkP.xl (fun k_6 q => have g_k_6 := K.2.2.2.2.2 _ _ _ _ h_z_4 g_h0 q; (LkP.xg (LkP.ite (lkp_fn_X13_look_B29 K h_z_4 g_h0) (LkP.ite (lkp_fn_X13_look_B29 K h_z_4 g_h0) (lkp_fn_X13_look_B34 K h_z_4 g_h0))))))))))))
theorem lkp_fn_X18_callOne_L192 {F : Nat} {sh : Nat → Nat × Nat} {n : Nat} {h0 : Nat} {x0 : Int32} (K : Kp Q G) (g_h0 : G h0) : ∀ (f : Nat) (v1 : St) (v2 : Int32), Q v1 → LkP Q (fn_X18_callOne_L192 F sh n h0 x0 f v1 v2) := by
  intro f
  induction f with
  | zero => intros; exact LkP.none
  | succ f_47 ih =>
    intro z_46 p_45 h_z_46
    exact (LkP.ite (LkP.xl (fun k_49 q => have g_k_49 := K.2.2.2.2.2 _ _ _ _ h_z_46 g_h0 q; (LkP.xg (LkP.lts (K.1 _ _ _ _ h_z_46 g_k_49) (fun z_52 h_z_52 => (LkP.xc (lkp_fn_X18_settle K h_z_52 g_h0) (fun z_53 _ h_z_53 => (LkP.ret h_z_53)))))))) (LkP.ltv (fun v_55 => (LkP.xl (fun k_56 q => have g_k_56 := K.2.2.2.2.2 _ _ _ _ h_z_46 g_h0 q; (LkP.xl (fun k_57 q => have g_k_57 := K.2.2.2.2.2 _ _ _ _ h_z_46 g_h0 q; (LkP.xg (LkP.xl (fun k_59 q => have g_k_59 := K.2.2.2.2.2 _ _ _ _ h_z_46 g_k_57 q; (LkP.xl (fun k_60 q => have g_k_60 := K.2.2.2.2.2 _ _ _ _ h_z_46 g_h0 q; (LkP.xg (LkP.xg (LkP.xg (LkP.lts (K.1 _ _ _ _ h_z_46 g_k_56) (fun z_65 h_z_65 => (LkP.xl (fun k_66 q => have g_k_66 := K.2.2.2.2.2 _ _ _ _ h_z_65 g_h0 q; (LkP.xl (fun k_67 q => have g_k_67 := K.2.2.2.2.2 _ _ _ _ h_z_65 g_h0 q; (LkP.xg (LkP.xl (fun k_69 q => have g_k_69 := K.2.2.2.2.2 _ _ _ _ h_z_65 g_k_67 q; (LkP.xl (fun k_70 q => have g_k_70 := K.2.2.2.2.2 _ _ _ _ h_z_65 g_h0 q; (LkP.xg (LkP.xg (LkP.xg (LkP.lts (K.2.1 _ _ _ _ h_z_65 g_k_66) (fun z_75 h_z_75 => (LkP.xl (fun k_76 q => have g_k_76 := K.2.2.2.2.2 _ _ _ _ h_z_75 g_h0 q; (LkP.xl (fun k_77 q => have g_k_77 := K.2.2.2.2.2 _ _ _ _ h_z_75 g_h0 q; (LkP.xg (LkP.xl (fun k_79 q => have g_k_79 := K.2.2.2.2.2 _ _ _ _ h_z_75 g_k_77 q; (LkP.xl (fun k_80 q => have g_k_80 := K.2.2.2.2.2 _ _ _ _ h_z_75 g_h0 q; (LkP.xg (LkP.xg (LkP.xg (LkP.lts (K.2.1 _ _ _ _ h_z_75 g_k_76) (fun z_85 h_z_85 => (ih _ _ h_z_85 ))))))))))))))))))))))))))))))))))))))))))))))
theorem lkp_fn_X18_callOne_B181 {F : Nat} {sh : Nat → Nat × Nat} {n : Nat} {h0 : Nat} {x0 : Int32} {z_43 : St} (K : Kp Q G) (h_z_43 : Q z_43) (g_h0 : G h0) : LkP Q (fn_X18_callOne_B181 F sh n h0 x0 z_43) := by
  unfold fn_X18_callOne_B181
  exact (LkP.ite (lkp_fn_X18_callOne_L192 K g_h0 _ _ _ h_z_43 ) (LkP.ret h_z_43))
theorem lkp_fn_X18_callOne_L141 {F : Nat} {sh : Nat → Nat × Nat} {n : Nat} {h0 : Nat} {x0 : Int32} (K : Kp Q G) (g_h0 : G h0) : ∀ (f : Nat) (v1 : St), Q v1 → LkP Q (fn_X18_callOne_L141 F sh n h0 x0 f v1) := by
  intro f
  induction f with
  | zero => intros; exact LkP.none
  | succ f_38 ih =>
    intro z_37 h_z_37
    exact (LkP.xc (lkp_fn_X18_goesOn K h_z_37 g_h0) (fun z_39 r_40 h_z_39 => (LkP.ite (LkP.ite (LkP.xc (lkp_fn_X18_isTooMuch K h_z_39 g_h0) (fun z_87 r_88 h_z_87 => (LkP.ite (lkp_fn_X18_callOne_B181 K h_z_87 g_h0) (LkP.lts (K.1 _ _ _ _ h_z_87 g_h0) (fun z_92 h_z_92 => (LkP.lts (K.2.1 _ _ _ _ h_z_92 g_h0) (fun z_94 h_z_94 => (lkp_fn_X18_callOne_B181 K h_z_94 g_h0)))))))) (lkp_fn_X18_callOne_B181 K h_z_39 g_h0)) (LkP.xc (lkp_fn_X18_one K h_z_39 g_h0) (fun z_95 _ h_z_95 => (ih _ h_z_95 ))))))
theorem lkp_fn_X18_callOne_L65 {F : Nat} {sh : Nat → Nat × Nat} {n : Nat} {h0 : Nat} {x0 : Int32} {x1 : Int32} (K : Kp Q G) (g_h0 : G h0) : ∀ (f : Nat) (v1 : St) (v2 : Int32), Q v1 → LkP Q (fn_X18_callOne_L65 F sh n h0 x0 x1 f v1 v2) := by
  intro f
  induction f with
  | zero => intros; exact LkP.none
  | succ f_27 ih =>
    intro z_26 p_25 h_z_26
    exact (LkP.xl (fun k_28 q => have g_k_28 := K.2.2.2.2.2 _ _ _ _ h_z_26 g_h0 q; (LkP.xg (LkP.ite (LkP.xl (fun k_31 q => have g_k_31 := K.2.2.2.2.2 _ _ _ _ h_z_26 g_h0 q; (LkP.xg (LkP.xl (fun k_33 q => have g_k_33 := K.2.2.2.2.2 _ _ _ _ h_z_26 g_h0 q; (LkP.xg (LkP.xc (lkp_fn_X18_enter K h_z_26 g_h0) (fun z_35 _ h_z_35 => (lkp_fn_X18_callOne_L141 K g_h0 _ _ h_z_35 ))))))))) (LkP.ltv (fun v_97 => (LkP.xl (fun k_98 q => have g_k_98 := K.2.2.2.2.2 _ _ _ _ h_z_26 g_h0 q; (LkP.xl (fun k_99 q => have g_k_99 := K.2.2.2.2.2 _ _ _ _ h_z_26 g_h0 q; (LkP.xg (LkP.xl (fun k_101 q => have g_k_101 := K.2.2.2.2.2 _ _ _ _ h_z_26 g_h0 q; (LkP.xg (LkP.xl (fun k_103 q => have g_k_103 := K.2.2.2.2.2 _ _ _ _ h_z_26 g_h0 q; (LkP.xg (LkP.xg (LkP.xc (lkp_fn_X15_make K h_z_26 g_k_98) (fun z_105 r_106 h_z_105 => (LkP.xc (lkp_fn_X18_push K h_z_105 g_h0) (fun z_109 _ h_z_109 => (ih _ _ h_z_109 )))))))))))))))))))))))
theorem lkp_fn_X18_callOne {F : Nat} {sh : Nat → Nat × Nat} {n : Nat} {z : St} {h0 : Nat} {x0 : Int32} {x1 : Int32} {x2 : Int32} (K : Kp Q G) (h_z : Q z) (g_h0 : G h0) : LkP Q (fn_X18_callOne F sh n z h0 x0 x1 x2) := by
  unfold fn_X18_callOne
  exact (LkP.xg (LkP.xl (fun k_2 q => have g_k_2 := K.2.2.2.2.2 _ _ _ _ h_z g_h0 q; (LkP.xg (LkP.lts (K.1 _ _ _ _ h_z g_k_2) (fun z_5 h_z_5 => (LkP.lts (K.1 _ _ _ _ h_z_5 g_h0) (fun z_7 h_z_7 => (LkP.xc (lkp_fn_X18_ask K h_z_7 g_h0) (fun z_8 r_9 h_z_8 => (LkP.xl (fun k_11 q => have g_k_11 := K.2.2.2.2.2 _ _ _ _ h_z_8 g_h0 q; (LkP.xg (LkP.xg (LkP.lts (K.2.1 _ _ _ _ h_z_8 g_k_11) (fun z_15 h_z_15 => (LkP.xl (fun k_16 q => have g_k_16 := K.2.2.2.2.2 _ _ _ _ h_z_15 g_h0 q; (LkP.xg (LkP.xc (lkp_fn_X18_ask K h_z_15 g_h0) (fun z_18 r_19 h_z_18 => (LkP.lts (K.1 _ _ _ _ h_z_18 g_h0) (fun z_22 h_z_22 => (LkP.lts (K.1 _ _ _ _ h_z_22 g_h0) (fun z_24 h_z_24 => (lkp_fn_X18_callOne_L65 K g_h0 _ _ _ h_z_24 ))))))))))))))))))))))))))
theorem lkp_fn_X13_check_B48 {F : Nat} {sh : Nat → Nat × Nat} {n : Nat} {p_8 : Int32} {ko16 : St → Int32 → Option (St × Int32)} {z_15 : St} (K : Kp Q G) (h_z_15 : Q z_15) (hko_ko16 : ∀ (w0 : St) (w1 : Int32), Q w0 → LkP Q (ko16 w0 w1)) : LkP Q (fn_X13_check_B48 F sh n p_8 ko16 z_15) := by
  unfold fn_X13_check_B48
  exact (hko_ko16 _ _ h_z_15 )
theorem lkp_fn_X13_check_L16 {F : Nat} {sh : Nat → Nat × Nat} {n : Nat} {h0 : Nat} (K : Kp Q G) (g_h0 : G h0) : ∀ (f : Nat) (v1 : St) (v2 : Int32), Q v1 → LkP Q (fn_X13_check_L16 F sh n h0 f v1 v2) := by
  intro f
  induction f with
  | zero => intros; exact LkP.none
  | succ f_10 ih =>
    intro z_9 p_8 h_z_9
    exact (LkP.ite (LkP.ret h_z_9) (LkP.ite (LkP.xc (lkp_fn_X13_look K h_z_9 g_h0) (fun z_13 _ h_z_13 => (LkP.ite (lkp_fn_X13_check_B48 K h_z_13 (fun z9 q3 hk_z9 => (ih _ _ hk_z9 ))) (LkP.lts (K.1 _ _ _ _ h_z_13 g_h0) (fun z_18 h_z_18 => (lkp_fn_X13_check_B48 K h_z_18 (fun z9 q3 hk_z9 => (ih _ _ hk_z9 )))))))) (LkP.ret h_z_9)))
theorem lkp_fn_X13_check {F : Nat} {sh : Nat → Nat × Nat} {n : Nat} {z : St} {h0 : Nat} {x0 : Nat} {x1 : Int32} (K : Kp Q G) (h_z : Q z) (g_h0 : G h0) (g_x0 : G x0) : LkP Q (fn_X13_check F sh n z h0 x0 x1) := by
  unfold fn_X13_check
  exact (LkP.xg (LkP.lts (K.2.2.1 _ _ _ _ h_z g_h0 (some_q g_x0)) (fun z_3 h_z_3 => (LkP.lts (K.1 _ _ _ _ h_z_3 g_h0) (fun z_5 h_z_5 => (LkP.xc (lkp_fn_X13_begin K h_z_5 g_h0) (fun z_6 _ h_z_6 => (lkp_fn_X13_check_L16 K g_h0 _ _ _ h_z_6 ))))))))
theorem lkp_fn_X18_takeModule_L310 {F : Nat} {sh : Nat → Nat × Nat} {n : Nat} {k_4 : Nat} {h0 : Nat} (K : Kp Q G) (g_k_4 : G k_4) (g_h0 : G h0) : ∀ (f : Nat) (v1 : St) (v2 : Int32), Q v1 → LkP Q (fn_X18_takeModule_L310 F sh n k_4 h0 f v1 v2) := by
  intro f
  induction f with
  | zero => intros; exact LkP.none
  | succ f_56 ih =>
    intro z_55 p_54 h_z_55
    exact (LkP.ite (LkP.ret h_z_55) (LkP.xl (fun k_58 q => have g_k_58 := K.2.2.2.2.2 _ _ _ _ h_z_55 g_h0 q; (LkP.xg (LkP.xc (lkp_fn_X13_check K h_z_55 g_k_58 g_k_4) (fun z_59 r_60 h_z_59 => (LkP.ite (ih _ _ h_z_59 ) (LkP.xl (fun k_64 q => have g_k_64 := K.2.2.2.2.2 _ _ _ _ h_z_59 g_h0 q; (LkP.xg (LkP.xc (lkp_fn_X18_tell K h_z_59 g_h0) (fun z_66 r_67 h_z_66 => (LkP.ret h_z_66)))))))))))))
theorem lkp_fn_X18_takeModule_L264 {F : Nat} {sh : Nat → Nat × Nat} {n : Nat} {k_4 : Nat} {h0 : Nat} {x3 : Int32} (K : Kp Q G) (g_k_4 : G k_4) (g_h0 : G h0) : ∀ (f : Nat) (v1 : St) (v2 : Int32), Q v1 → LkP Q (fn_X18_takeModule_L264 F sh n k_4 h0 x3 f v1 v2) := by
  intro f
  induction f with
  | zero => intros; exact LkP.none
  | succ f_52 ih =>
    intro z_51 p_50 h_z_51
    exact (LkP.ite (lkp_fn_X18_takeModule_L310 K g_k_4 g_h0 _ _ _ h_z_51 ) (LkP.xl (fun k_69 q => have g_k_69 := K.2.2.2.2.2 _ _ _ _ h_z_51 g_h0 q; (LkP.xg (LkP.ite (ih _ _ h_z_51 ) (LkP.xc (lkp_fn_X18_tell K h_z_51 g_h0) (fun z_72 r_73 h_z_72 => (LkP.ret h_z_72))))))))
theorem lkp_fn_X18_takeModule_L216 {F : Nat} {sh : Nat → Nat × Nat} {n : Nat} {k_4 : Nat} {h0 : Nat} {x3 : Int32} (K : Kp Q G) (g_k_4 : G k_4) (g_h0 : G h0) : ∀ (f : Nat) (v1 : St) (v2 : Int32), Q v1 → LkP Q (fn_X18_takeModule_L216 F sh n k_4 h0 x3 f v1 v2) := by
  intro f
  induction f with
  | zero => intros; exact LkP.none
  | succ f_46 ih =>
    intro z_45 p_44 h_z_45
    exact (LkP.ite (LkP.xc (lkp_fn_X18_measure K h_z_45 g_h0) (fun z_48 _ h_z_48 => (lkp_fn_X18_takeModule_L264 K g_k_4 g_h0 _ _ _ h_z_48 ))) (LkP.xl (fun k_75 q => have g_k_75 := K.2.2.2.2.2 _ _ _ _ h_z_45 g_h0 q; (LkP.xg (LkP.xc (lkp_fn_X13_bears K h_z_45 g_k_75 g_k_4) (fun z_76 r_77 h_z_76 => (LkP.ite (LkP.xc (lkp_fn_X18_tell K h_z_76 g_h0) (fun z_81 r_82 h_z_81 => (LkP.ret h_z_81))) (ih _ _ h_z_76 ))))))))
theorem lkp_fn_X18_takeModule_L171 {F : Nat} {sh : Nat → Nat × Nat} {n : Nat} {k_4 : Nat} {h0 : Nat} {x3 : Int32} (K : Kp Q G) (g_k_4 : G k_4) (g_h0 : G h0) : ∀ (f : Nat) (v1 : St) (v2 : Int32), Q v1 → LkP Q (fn_X18_takeModule_L171 F sh n k_4 h0 x3 f v1 v2) := by
  intro f
  induction f with
  | zero => intros; exact LkP.none
  | succ f_39 ih =>
    intro z_38 p_37 h_z_38
    exact (LkP.xc (lkp_fn_X16_functionCount K h_z_38 g_k_4) (fun z_40 r_41 h_z_40 => (LkP.ite (lkp_fn_X18_takeModule_L216 K g_k_4 g_h0 _ _ _ h_z_40 ) (LkP.xc (lkp_fn_X18_isFunctionAs K h_z_40 g_h0 g_k_4) (fun z_84 r_85 h_z_84 => (LkP.ite (LkP.xc (lkp_fn_X18_tell K h_z_84 g_h0) (fun z_88 r_89 h_z_88 => (LkP.ret h_z_88))) (ih _ _ h_z_84 )))))))
theorem lkp_fn_X18_takeModule_B143 {F : Nat} {sh : Nat → Nat × Nat} {n : Nat} {h0 : Nat} {p_29 : Int32} {k_4 : Nat} {z_97 : St} (K : Kp Q G) (h_z_97 : Q z_97) (g_h0 : G h0) (g_k_4 : G k_4) : LkP Q (fn_X18_takeModule_B143 F sh n h0 p_29 k_4 z_97) := by
  unfold fn_X18_takeModule_B143
  exact (LkP.xc (lkp_fn_X18_tell K h_z_97 g_h0) (fun z_98 r_99 h_z_98 => (LkP.ret h_z_98)))
theorem lkp_fn_X18_takeModule_L80 {F : Nat} {sh : Nat → Nat × Nat} {n : Nat} {k_4 : Nat} {h0 : Nat} {x3 : Int32} (K : Kp Q G) (g_k_4 : G k_4) (g_h0 : G h0) : ∀ (f : Nat) (v1 : St) (v2 : Int32), Q v1 → LkP Q (fn_X18_takeModule_L80 F sh n k_4 h0 x3 f v1 v2) := by
  intro f
  induction f with
  | zero => intros; exact LkP.none
  | succ f_31 ih =>
    intro z_30 p_29 h_z_30
    exact (LkP.xc (lkp_fn_X16_structureCount K h_z_30 g_k_4) (fun z_32 r_33 h_z_32 => (LkP.ite (LkP.ltv (fun v_36 => (lkp_fn_X18_takeModule_L171 K g_k_4 g_h0 _ _ _ h_z_32 ))) (LkP.xc (lkp_fn_X16_identity K h_z_32 g_k_4) (fun z_91 r_92 h_z_91 => (LkP.xc (lkp_fn_X18_isThere K h_z_91 g_h0) (fun z_94 r_95 h_z_94 => (LkP.ite (lkp_fn_X18_takeModule_B143 K h_z_94 g_h0 g_k_4) (LkP.xc (lkp_fn_X18_abilitiesThere K h_z_94 g_h0) (fun z_102 r_103 h_z_102 => (LkP.xc (lkp_fn_X16_abilitiesOf K h_z_102 g_k_4) (fun z_105 r_106 h_z_105 => (LkP.ite (ih _ _ h_z_105 ) (lkp_fn_X18_takeModule_B143 K h_z_105 g_h0 g_k_4))))))))))))))
theorem lkp_fn_X18_takeModule_B34 {F : Nat} {sh : Nat → Nat × Nat} {n : Nat} {h0 : Nat} {r_6 : Int32} {k_4 : Nat} {x3 : Int32} {z_10 : St} {p_9 : Int32} (K : Kp Q G) (h_z_10 : Q z_10) (g_h0 : G h0) (g_k_4 : G k_4) : LkP Q (fn_X18_takeModule_B34 F sh n h0 r_6 k_4 x3 z_10 p_9) := by
  unfold fn_X18_takeModule_B34
  exact (LkP.lts (K.1 _ _ _ _ h_z_10 g_h0) (fun z_12 h_z_12 => (LkP.ite (LkP.xc (lkp_fn_X16_number K h_z_12 g_k_4) (fun z_14 r_15 h_z_14 => (LkP.ite (LkP.xc (lkp_fn_X18_tell K h_z_14 g_h0) (fun z_18 r_19 h_z_18 => (LkP.ret h_z_18))) (LkP.xc (lkp_fn_X16_number K h_z_14 g_k_4) (fun z_21 r_22 h_z_21 => (LkP.xc (lkp_fn_X18_findModule K h_z_21 g_h0) (fun z_24 r_25 h_z_24 => (LkP.ite (LkP.ltv (fun v_28 => (lkp_fn_X18_takeModule_L80 K g_k_4 g_h0 _ _ _ h_z_24 ))) (LkP.xc (lkp_fn_X18_tell K h_z_24 g_h0) (fun z_109 r_110 h_z_109 => (LkP.ret h_z_109))))))))))) (LkP.ret h_z_12))))
theorem lkp_fn_X18_takeModule {F : Nat} {sh : Nat → Nat × Nat} {n : Nat} {z : St} {h0 : Nat} {x0 : Nat} {x1 : Int32} {x2 : Int32} {x3 : Int32} (K : Kp Q G) (h_z : Q z) (g_h0 : G h0) (g_x0 : G x0) : LkP Q (fn_X18_takeModule F sh n z h0 x0 x1 x2 x3) := by
  unfold fn_X18_takeModule
  exact (LkP.xg (LkP.xl (fun k_2 q => have g_k_2 := K.2.2.2.2.2 _ _ _ _ h_z g_h0 q; (LkP.xg (LkP.xl (fun k_4 q => have g_k_4 := K.2.2.2.2.2 _ _ _ _ h_z g_k_2 q; (LkP.xg (LkP.xc (lkp_fn_X16_read K h_z g_k_4 g_x0) (fun z_5 r_6 h_z_5 => (LkP.ite (lkp_fn_X18_takeModule_B34 K h_z_5 g_h0 g_k_4) (lkp_fn_X18_takeModule_B34 K h_z_5 g_h0 g_k_4)))))))))))
theorem lkp_fn_X18_publishOne {F : Nat} {sh : Nat → Nat × Nat} {n : Nat} {z : St} {h0 : Nat} {x0 : Int32} (K : Kp Q G) (h_z : Q z) (g_h0 : G h0) : LkP Q (fn_X18_publishOne F sh n z h0 x0) := by
  unfold fn_X18_publishOne
  exact (LkP.xg (LkP.xl (fun k_2 q => have g_k_2 := K.2.2.2.2.2 _ _ _ _ h_z g_h0 q; (LkP.xg (LkP.ltv (fun v_4 => (LkP.ltv (fun v_5 => (LkP.xc (lkp_fn_X18_spend K h_z g_h0) (fun z_6 r_7 h_z_6 => (LkP.ite (LkP.ret h_z_6) (LkP.ite (LkP.xc (lkp_fn_X18_end K h_z_6 g_h0) (fun z_32 _ h_z_32 => (LkP.ret h_z_32))) (LkP.xl (fun k_11 q => have g_k_11 := K.2.2.2.2.2 _ _ _ _ h_z_6 g_h0 q; (LkP.xc (lkp_fn_X18_takeModule K h_z_6 g_h0 g_k_11) (fun z_12 r_13 h_z_12 => (LkP.ite (LkP.xc (lkp_fn_X18_placeCount K h_z_12 g_h0) (fun z_16 r_17 h_z_16 => (LkP.ite (LkP.xc (lkp_fn_X18_end K h_z_16 g_h0) (fun z_24 _ h_z_24 => (LkP.ret h_z_24))) (LkP.lts (K.1 _ _ _ _ h_z_16 g_h0) (fun z_21 h_z_21 => (LkP.xc (lkp_fn_X18_end K h_z_21 g_h0) (fun z_22 _ h_z_22 => (LkP.ret h_z_22)))))))) (LkP.xl (fun k_26 q => have g_k_26 := K.2.2.2.2.2 _ _ _ _ h_z_12 g_h0 q; (LkP.xg (LkP.lts (K.1 _ _ _ _ h_z_12 g_k_26) (fun z_29 h_z_29 => (LkP.xc (lkp_fn_X18_end K h_z_29 g_h0) (fun z_30 _ h_z_30 => (LkP.ret h_z_30)))))))))))))))))))))))))
theorem lkp_fn_X18_doOne_B228 {F : Nat} {sh : Nat → Nat × Nat} {n : Nat} {h0 : Nat} {x0 : Int32} {z_36 : St} (K : Kp Q G) (h_z_36 : Q z_36) (g_h0 : G h0) : LkP Q (fn_X18_doOne_B228 F sh n h0 x0 z_36) := by
  unfold fn_X18_doOne_B228
  exact (LkP.xl (fun k_37 q => have g_k_37 := K.2.2.2.2.2 _ _ _ _ h_z_36 g_h0 q; (LkP.xg (LkP.lts (K.1 _ _ _ _ h_z_36 g_k_37) (fun z_40 h_z_40 => (LkP.xl (fun k_41 q => have g_k_41 := K.2.2.2.2.2 _ _ _ _ h_z_40 g_h0 q; (LkP.xg (LkP.lts (K.1 _ _ _ _ h_z_40 g_k_41) (fun z_44 h_z_44 => (LkP.xl (fun k_45 q => have g_k_45 := K.2.2.2.2.2 _ _ _ _ h_z_44 g_h0 q; (LkP.xg (LkP.lts (K.2.1 _ _ _ _ h_z_44 g_k_45) (fun z_48 h_z_48 => (LkP.ret h_z_48))))))))))))))))
theorem lkp_fn_X18_doOne_B181 {F : Nat} {sh : Nat → Nat × Nat} {n : Nat} {h0 : Nat} {x0 : Int32} {z_52 : St} (K : Kp Q G) (h_z_52 : Q z_52) (g_h0 : G h0) : LkP Q (fn_X18_doOne_B181 F sh n h0 x0 z_52) := by
  unfold fn_X18_doOne_B181
  exact (LkP.xc (lkp_fn_X18_findAccount K h_z_52 g_h0) (fun z_53 r_54 h_z_53 => (LkP.xl (fun k_56 q => have g_k_56 := K.2.2.2.2.2 _ _ _ _ h_z_53 g_h0 q; (LkP.xg (LkP.xg (LkP.lts (K.2.1 _ _ _ _ h_z_53 g_k_56) (fun z_60 h_z_60 => (LkP.xl (fun k_61 q => have g_k_61 := K.2.2.2.2.2 _ _ _ _ h_z_60 g_h0 q; (LkP.xg (LkP.xg (LkP.lts (K.2.1 _ _ _ _ h_z_60 g_k_61) (fun z_65 h_z_65 => (LkP.lts (K.2.1 _ _ _ _ h_z_65 g_h0) (fun z_67 h_z_67 => (lkp_fn_X18_doOne_B228 K h_z_67 g_h0)))))))))))))))))
theorem lkp_fn_X18_doOne_B141 {F : Nat} {sh : Nat → Nat × Nat} {n : Nat} {h0 : Nat} {x0 : Int32} {r_32 : Int32} {r_25 : Int32} {z_35 : St} {p_34 : Int32} (K : Kp Q G) (h_z_35 : Q z_35) (g_h0 : G h0) : LkP Q (fn_X18_doOne_B141 F sh n h0 x0 r_32 r_25 z_35 p_34) := by
  unfold fn_X18_doOne_B141
  exact (LkP.ite (LkP.xl (fun k_50 q => have g_k_50 := K.2.2.2.2.2 _ _ _ _ h_z_35 g_h0 q; (LkP.xg (LkP.ite (LkP.xc (lkp_fn_X18_publishOne K h_z_35 g_h0) (fun z_71 _ h_z_71 => (lkp_fn_X18_doOne_B181 K h_z_71 g_h0))) (LkP.xc (lkp_fn_X18_callOne K h_z_35 g_h0) (fun z_69 _ h_z_69 => (lkp_fn_X18_doOne_B181 K h_z_69 g_h0))))))) (LkP.xc (lkp_fn_X18_end K h_z_35 g_h0) (fun z_73 _ h_z_73 => (lkp_fn_X18_doOne_B228 K h_z_73 g_h0))))
theorem lkp_fn_X18_doOne_B106 {F : Nat} {sh : Nat → Nat × Nat} {n : Nat} {h0 : Nat} {x0 : Int32} {r_25 : Int32} {z_28 : St} {p_27 : Int32} (K : Kp Q G) (h_z_28 : Q z_28) (g_h0 : G h0) : LkP Q (fn_X18_doOne_B106 F sh n h0 x0 r_25 z_28 p_27) := by
  unfold fn_X18_doOne_B106
  exact (LkP.xl (fun k_29 q => have g_k_29 := K.2.2.2.2.2 _ _ _ _ h_z_28 g_h0 q; (LkP.xg (LkP.xc (lkp_fn_X18_findModule K h_z_28 g_h0) (fun z_31 r_32 h_z_31 => (LkP.ite (LkP.xl (fun k_76 q => have g_k_76 := K.2.2.2.2.2 _ _ _ _ h_z_31 g_h0 q; (LkP.xg (LkP.ite (LkP.xc (lkp_fn_X18_refusal K h_z_31 g_h0) (fun z_79 r_80 h_z_79 => (lkp_fn_X18_doOne_B141 K h_z_79 g_h0))) (lkp_fn_X18_doOne_B141 K h_z_31 g_h0))))) (lkp_fn_X18_doOne_B141 K h_z_31 g_h0)))))))
theorem lkp_fn_X18_doOne {F : Nat} {sh : Nat → Nat × Nat} {n : Nat} {z : St} {h0 : Nat} {x0 : Int32} (K : Kp Q G) (h_z : Q z) (g_h0 : G h0) : LkP Q (fn_X18_doOne F sh n z h0 x0) := by
  unfold fn_X18_doOne
  exact (LkP.xg (LkP.xl (fun k_2 q => have g_k_2 := K.2.2.2.2.2 _ _ _ _ h_z g_h0 q; (LkP.xg (LkP.lts (K.2.1 _ _ _ _ h_z g_h0) (fun z_5 h_z_5 => (LkP.xl (fun k_6 q => have g_k_6 := K.2.2.2.2.2 _ _ _ _ h_z_5 g_h0 q; (LkP.xg (LkP.lts (K.1 _ _ _ _ h_z_5 g_h0) (fun z_9 h_z_9 => (LkP.lts (K.1 _ _ _ _ h_z_9 g_h0) (fun z_11 h_z_11 => (LkP.lts (K.1 _ _ _ _ h_z_11 g_h0) (fun z_13 h_z_13 => (LkP.lts (K.2.1 _ _ _ _ h_z_13 g_h0) (fun z_15 h_z_15 => (LkP.xl (fun k_16 q => have g_k_16 := K.2.2.2.2.2 _ _ _ _ h_z_15 g_h0 q; (LkP.xg (LkP.lts (K.1 _ _ _ _ h_z_15 g_k_16) (fun z_19 h_z_19 => (LkP.xl (fun k_20 q => have g_k_20 := K.2.2.2.2.2 _ _ _ _ h_z_19 g_h0 q; (LkP.xg (LkP.lts (K.1 _ _ _ _ h_z_19 g_k_20) (fun z_23 h_z_23 => (LkP.xc (lkp_fn_X18_findAccount K h_z_23 g_h0) (fun z_24 r_25 h_z_24 => (LkP.ite (LkP.xl (fun k_83 q => have g_k_83 := K.2.2.2.2.2 _ _ _ _ h_z_24 g_h0 q; (LkP.xg (LkP.xl (fun k_85 q => have g_k_85 := K.2.2.2.2.2 _ _ _ _ h_z_24 g_h0 q; (LkP.xg (LkP.ite (LkP.xl (fun k_88 q => have g_k_88 := K.2.2.2.2.2 _ _ _ _ h_z_24 g_h0 q; (LkP.xg (LkP.ite (lkp_fn_X18_doOne_B106 K h_z_24 g_h0) (lkp_fn_X18_doOne_B106 K h_z_24 g_h0))))) (lkp_fn_X18_doOne_B106 K h_z_24 g_h0)))))))) (lkp_fn_X18_doOne_B106 K h_z_24 g_h0)))))))))))))))))))))))))))))))
theorem lkp_fn_X18_execute_B49 {F : Nat} {sh : Nat → Nat × Nat} {n : Nat} {p_4 : Int32} {p_5 : Int32} {ko21 : St → Int32 → Int32 → Option (St × Int32)} {z_16 : St} {p_15 : Int32} (K : Kp Q G) (h_z_16 : Q z_16) (hko_ko21 : ∀ (w0 : St) (w1 : Int32) (w2 : Int32), Q w0 → LkP Q (ko21 w0 w1 w2)) : LkP Q (fn_X18_execute_B49 F sh n p_4 p_5 ko21 z_16 p_15) := by
  unfold fn_X18_execute_B49
  exact (LkP.ltv (fun v_17 => (hko_ko21 _ _ _ h_z_16 )))
theorem lkp_fn_X18_execute_L21 {F : Nat} {sh : Nat → Nat × Nat} {n : Nat} {h0 : Nat} (K : Kp Q G) (g_h0 : G h0) : ∀ (f : Nat) (v1 : St) (v2 : Int32) (v3 : Int32), Q v1 → LkP Q (fn_X18_execute_L21 F sh n h0 f v1 v2 v3) := by
  intro f
  induction f with
  | zero => intros; exact LkP.none
  | succ f_7 ih =>
    intro z_6 p_4 p_5 h_z_6
    exact (LkP.ite (LkP.lts (K.1 _ _ _ _ h_z_6 g_h0) (fun z_10 h_z_10 => (LkP.ret h_z_10))) (LkP.xc (lkp_fn_X18_doOne K h_z_6 g_h0) (fun z_11 _ h_z_11 => (LkP.xl (fun k_13 q => have g_k_13 := K.2.2.2.2.2 _ _ _ _ h_z_11 g_h0 q; (LkP.xg (LkP.ite (lkp_fn_X18_execute_B49 K h_z_11 (fun z9 q1 q2 hk_z9 => (ih _ _ _ hk_z9 ))) (lkp_fn_X18_execute_B49 K h_z_11 (fun z9 q1 q2 hk_z9 => (ih _ _ _ hk_z9 ))))))))))
theorem lkp_fn_X18_execute {F : Nat} {sh : Nat → Nat × Nat} {n : Nat} {z : St} {h0 : Nat} (K : Kp Q G) (h_z : Q z) (g_h0 : G h0) : LkP Q (fn_X18_execute F sh n z h0) := by
  unfold fn_X18_execute
  exact (LkP.xg (LkP.ite (LkP.ret h_z) (LkP.ltv (fun v_3 => (lkp_fn_X18_execute_L21 K g_h0 _ _ _ _ h_z )))))
end
