/-! THE MACHINE'S STATE: operations as a whole, the rest -/
section
variable {E : Ev} {H : Hp} {m : Nat} {ty : Nat → Nat} {fr : Nat → Fm} {nf na : Nat} {ak : Nat → Ask} {hd : Nat → Option Nat}
/-- nothing points below what a sole writing reference on the stack points to -/
theorem MJ0.soleN (I : MJ0 E H m ty fr nf na ak hd) {j : Nat} (hj : j < (fr (nf - 1)).2.2.1.1) (h9 : ((fr (nf - 1)).2.2.1.2 j).2.1 = 9) (hs : ∀ s, s.2.1 ≠ 0 → ((∃ k, k < (fr (nf - 1)).2.2.1.1 ∧ k ≠ j ∧ (fr (nf - 1)).2.2.1.2 k = s) ∨ ∃ k, (fr (nf - 1)).2.1 k = some s) → mt s.2.2.2.1 ((fr (nf - 1)).2.2.1.2 j).2.2.2.1 → s.2.1 = 9 ∧ s.2.2.2.2 = false) : ∀ d s, RfA fr nf d s → Sub H ((fr (nf - 1)).2.2.1.2 j).1 s.1 → s.1 = ((fr (nf - 1)).2.2.1.2 j).1 := by
  have hr : RfA fr nf (nf - 1) ((fr (nf - 1)).2.2.1.2 j) := ⟨by have := I.nf0; omega, by rw [h9]; decide, .inl ⟨j, hj, rfl⟩⟩
  intro d s q
  refine I.1.sole (nf - 1) _ hr h9 (fun t ⟨_, t2, t3⟩ => ?_) d s (by have := q.1; omega) q
  rcases t3 with ⟨k, k1, k2⟩ | t3 | ⟨k, t3⟩
  · by_cases c : k = j
    · subst c; exact .inl k2.symm
    · exact .inr (hs t t2 (.inl ⟨k, k1, c, k2⟩))
  · exact .inr (hs t t2 (.inr t3))
  · rw [I.g0 k] at t3; exact absurd t3 (by simp)
theorem rfa_drp {n : Nat} {d : Nat} {s : Sl} (h : RfA (setF fr (nf - 1) (setH (fr (nf - 1)) ((fr (nf - 1)).2.2.1.1 - n))) nf d s) : RfA fr nf d s := by
  obtain ⟨h1, h2, h3⟩ := h
  refine ⟨h1, h2, ?_⟩
  by_cases c : d = nf - 1
  · subst c
    rw [setF_s] at h3
    rcases h3 with ⟨k, k1, k2⟩ | h3
    · simp only [setH] at k1 k2
      exact .inl ⟨k, by omega, k2⟩
    · exact .inr h3
  · rw [setF_n c] at h3; exact h3
/-- no reference points into a value on the stack -/
theorem MJ0.offV (I : MJ0 E H m ty fr nf na ak hd) {j : Nat} (hj : j < (fr (nf - 1)).2.2.1.1) (h0 : ((fr (nf - 1)).2.2.1.2 j).2.1 = 0) : ∀ d s, RfA fr nf d s → ¬ Sub H ((fr (nf - 1)).2.2.1.2 j).1 s.1 := by
  have hl : LvA fr nf na ak hd 0 (nf - 1) j = some ((fr (nf - 1)).2.2.1.2 j).1 := by rw [I.at0 hj, pln0 h0]
  exact I.1.free hl (by decide) (by decide)
theorem hd1 {f : Nat → Nat} {h : Nat} : (fun i => if i < 1 then some (f (h - 1 + i)) else none) = (fun i => if i = 0 then some (f (h - 1)) else none) := by
  funext i
  by_cases q : i = 0
  · subst q; simp
  · rw [if_neg (by omega), if_neg q]
/-- 19: the value below the topmost reference is written there -/
theorem MJ0.wr (I : MJ0 E H m ty fr nf na ak (fun _ => none)) (hE : EvOk E) (h2 : 2 ≤ (fr (nf - 1)).2.2.1.1) (h9 : ((fr (nf - 1)).2.2.1.2 ((fr (nf - 1)).2.2.1.1 - 1)).2.1 = 9) (h0 : ((fr (nf - 1)).2.2.1.2 ((fr (nf - 1)).2.2.1.1 - 2)).2.1 = 0) (ht : ((fr (nf - 1)).2.2.1.2 ((fr (nf - 1)).2.2.1.1 - 1)).2.2.1 = ((fr (nf - 1)).2.2.1.2 ((fr (nf - 1)).2.2.1.1 - 2)).2.2.1) (hs : ∀ s, s.2.1 ≠ 0 → ((∃ k, k < (fr (nf - 1)).2.2.1.1 ∧ k ≠ (fr (nf - 1)).2.2.1.1 - 1 ∧ (fr (nf - 1)).2.2.1.2 k = s) ∨ ∃ k, (fr (nf - 1)).2.1 k = some s) → mt s.2.2.2.1 ((fr (nf - 1)).2.2.1.2 ((fr (nf - 1)).2.2.1.1 - 1)).2.2.2.1 → s.2.1 = 9 ∧ s.2.2.2.2 = false) : MJ0 E (upH (upH H ((fr (nf - 1)).2.2.1.2 ((fr (nf - 1)).2.2.1.1 - 1)).1 (H ((fr (nf - 1)).2.2.1.2 ((fr (nf - 1)).2.2.1.1 - 2)).1)) ((fr (nf - 1)).2.2.1.2 ((fr (nf - 1)).2.2.1.1 - 2)).1 (0, 0, 0, [])) m ty (setF fr (nf - 1) (setH (fr (nf - 1)) ((fr (nf - 1)).2.2.1.1 - 2))) nf na ak (fun _ => none) ∧ ((fr (nf - 1)).2.2.1.2 ((fr (nf - 1)).2.2.1.1 - 1)).1 ≠ ((fr (nf - 1)).2.2.1.2 ((fr (nf - 1)).2.2.1.1 - 2)).1 := by
  have so := I.soleN (j := (fr (nf - 1)).2.2.1.1 - 1) (by omega) h9 hs
  have hv := I.offV (j := (fr (nf - 1)).2.2.1.1 - 2) (by omega) h0
  have hr : RfA fr nf (nf - 1) ((fr (nf - 1)).2.2.1.2 ((fr (nf - 1)).2.2.1.1 - 1)) := ⟨by have := I.nf0; omega, by rw [h9]; decide, .inl ⟨_, by omega, rfl⟩⟩
  have J := I.drp 1
  have K := J.popN (n := 1) (by rw [setF_s]; simp only [setH]; omega) (fun i hi => by rw [setF_s]; simp only [setH]; rw [show (fr (nf - 1)).2.2.1.1 - 1 - 1 + i = (fr (nf - 1)).2.2.1.1 - 2 by omega]; exact h0)
  rw [setF_s, setF_2] at K
  simp only [setH] at K
  rw [show (fr (nf - 1)).2.2.1.1 - 1 - 1 = (fr (nf - 1)).2.2.1.1 - 2 by omega] at K
  have e : (fun i => if i < 1 then some ((fr (nf - 1)).2.2.1.2 ((fr (nf - 1)).2.2.1.1 - 2 + i)).1 else none) = (fun i => if i = 0 then some ((fr (nf - 1)).2.2.1.2 ((fr (nf - 1)).2.2.1.1 - 2)).1 else none) := by
    funext i
    by_cases q : i = 0
    · subst q; simp
    · rw [if_neg (by omega), if_neg q]
  rw [e] at K
  have s1 := I.sl.1 ((fr (nf - 1)).2.2.1.1 - 1) (by omega)
  have s2 := I.sl.1 ((fr (nf - 1)).2.2.1.1 - 2) (by omega)
  have off := hv _ _ hr
  refine ⟨K.write hE (x := ((fr (nf - 1)).2.2.1.2 ((fr (nf - 1)).2.2.1.1 - 2)).1) (by simp) s1.1 (by rw [s1.2.1, s2.2.1, ht]) off (fun d s q => so d s (rfa_drp (n := 2) q)), fun q => off (by rw [q]; exact Sub.refl H _)⟩
/-- 22: the topmost structure becomes its parts -/
theorem MJ0.upk (I : MJ0 E H m ty fr nf na ak (fun _ => none)) (hE : EvOk E) (h1 : 1 ≤ (fr (nf - 1)).2.2.1.1) (h0 : ((fr (nf - 1)).2.2.1.2 ((fr (nf - 1)).2.2.1.1 - 1)).2.1 = 0) (sl : Nat → Sl) (hs : ∀ (i c : Nat), (kds H ((fr (nf - 1)).2.2.1.2 ((fr (nf - 1)).2.2.1.1 - 1)).1)[i]? = some c → sl i = (c, 0, ty c, 0, false)) : MJ0 E (upH H ((fr (nf - 1)).2.2.1.2 ((fr (nf - 1)).2.2.1.1 - 1)).1 (0, 0, 0, [])) m ty (setF fr (nf - 1) (setN (setH (fr (nf - 1)) ((fr (nf - 1)).2.2.1.1 - 1)) (kds H ((fr (nf - 1)).2.2.1.2 ((fr (nf - 1)).2.2.1.1 - 1)).1).length sl)) nf na ak (fun _ => none) := by
  have J := I.popN (n := 1) h1 (fun i hi => by rw [show (fr (nf - 1)).2.2.1.1 - 1 + i = (fr (nf - 1)).2.2.1.1 - 1 by omega]; exact h0)
  have K := J.unpack hE (x := ((fr (nf - 1)).2.2.1.2 ((fr (nf - 1)).2.2.1.1 - 1)).1) (by simp)
  have M := K.pushN (kds H ((fr (nf - 1)).2.2.1.2 ((fr (nf - 1)).2.2.1.1 - 1)).1).length sl (fun i hi => by
    have e := List.getElem?_eq_getElem hi
    rw [hs i _ e]
    exact ⟨e, rfl, rfl⟩)
  have e : (fun i => if i < (kds H ((fr (nf - 1)).2.2.1.2 ((fr (nf - 1)).2.2.1.1 - 1)).1).length then none else (kds H ((fr (nf - 1)).2.2.1.2 ((fr (nf - 1)).2.2.1.1 - 1)).1)[i]?) = (fun _ => (none : Option Nat)) := by
    funext i
    by_cases c : i < (kds H ((fr (nf - 1)).2.2.1.2 ((fr (nf - 1)).2.2.1.1 - 1)).1).length
    · rw [if_pos c]
    · rw [if_neg c]; exact List.getElem?_eq_none (by omega)
  rw [e, setF_s, setF_2] at M
  exact M
/-- 56: the topmost value comes behind the parts of what the reference below points to -/
theorem MJ0.app (I : MJ0 E H m ty fr nf na ak (fun _ => none)) (hE : EvOk E) (h2 : 2 ≤ (fr (nf - 1)).2.2.1.1) (h9 : ((fr (nf - 1)).2.2.1.2 ((fr (nf - 1)).2.2.1.1 - 2)).2.1 = 9) (h0 : ((fr (nf - 1)).2.2.1.2 ((fr (nf - 1)).2.2.1.1 - 1)).2.1 = 0) (ht : LTm E (ty ((fr (nf - 1)).2.2.1.2 ((fr (nf - 1)).2.2.1.1 - 2)).1) (setC (H ((fr (nf - 1)).2.2.1.2 ((fr (nf - 1)).2.2.1.1 - 2)).1) (kds H ((fr (nf - 1)).2.2.1.2 ((fr (nf - 1)).2.2.1.1 - 2)).1 ++ [((fr (nf - 1)).2.2.1.2 ((fr (nf - 1)).2.2.1.1 - 1)).1])) ((kds H ((fr (nf - 1)).2.2.1.2 ((fr (nf - 1)).2.2.1.1 - 2)).1 ++ [((fr (nf - 1)).2.2.1.2 ((fr (nf - 1)).2.2.1.1 - 1)).1]).map ty)) (hs : ∀ s, s.2.1 ≠ 0 → ((∃ k, k < (fr (nf - 1)).2.2.1.1 ∧ k ≠ (fr (nf - 1)).2.2.1.1 - 2 ∧ (fr (nf - 1)).2.2.1.2 k = s) ∨ ∃ k, (fr (nf - 1)).2.1 k = some s) → mt s.2.2.2.1 ((fr (nf - 1)).2.2.1.2 ((fr (nf - 1)).2.2.1.1 - 2)).2.2.2.1 → s.2.1 = 9 ∧ s.2.2.2.2 = false) : MJ0 E (upH H ((fr (nf - 1)).2.2.1.2 ((fr (nf - 1)).2.2.1.1 - 2)).1 (setC (H ((fr (nf - 1)).2.2.1.2 ((fr (nf - 1)).2.2.1.1 - 2)).1) (kds H ((fr (nf - 1)).2.2.1.2 ((fr (nf - 1)).2.2.1.1 - 2)).1 ++ [((fr (nf - 1)).2.2.1.2 ((fr (nf - 1)).2.2.1.1 - 1)).1]))) m ty (setF fr (nf - 1) (setH (fr (nf - 1)) ((fr (nf - 1)).2.2.1.1 - 2))) nf na ak (fun _ => none) ∧ Rt H ((fr (nf - 1)).2.2.1.2 ((fr (nf - 1)).2.2.1.1 - 1)).1 := by
  have so := I.soleN (j := (fr (nf - 1)).2.2.1.1 - 2) (by omega) h9 hs
  have hv := I.offV (j := (fr (nf - 1)).2.2.1.1 - 1) (by omega) h0
  have hr : RfA fr nf (nf - 1) ((fr (nf - 1)).2.2.1.2 ((fr (nf - 1)).2.2.1.1 - 2)) := ⟨by have := I.nf0; omega, by rw [h9]; decide, .inl ⟨_, by omega, rfl⟩⟩
  have off := hv _ _ hr
  have rt : Rt H ((fr (nf - 1)).2.2.1.2 ((fr (nf - 1)).2.2.1.1 - 1)).1 := I.1.2.1 0 (nf - 1) _ _ (by rw [I.at0 (show (fr (nf - 1)).2.2.1.1 - 1 < (fr (nf - 1)).2.2.1.1 by omega), pln0 h0])
  refine ⟨?_, rt⟩
  have J := I.popN (n := 1) (by omega) (fun i hi => by rw [show (fr (nf - 1)).2.2.1.1 - 1 + i = (fr (nf - 1)).2.2.1.1 - 1 by omega]; exact h0)
  have K := J.dropN 1 (fun _ _ q => q)
  rw [setF_s, setF_2] at K
  simp only [setH] at K
  rw [show (fr (nf - 1)).2.2.1.1 - 1 - 1 = (fr (nf - 1)).2.2.1.1 - 2 by omega] at K
  have s1 := I.sl.1 ((fr (nf - 1)).2.2.1.1 - 2) (by omega)
  have nd := (I.2.1.2 _ s1.1).2.2.2.1
  refine K.parts hE s1.1 ht ?_ (fun c hc => ?_) (fun d s q => so d s (rfa_drp (n := 2) q))
  · rw [List.nodup_append]
    refine ⟨nd, by simp, fun a ha b hb => ?_⟩
    rw [List.mem_singleton.mp hb]
    intro e; subst e; exact rt _ ha
  · rcases List.mem_append.mp hc with q | q
    · exact .inl q
    · rw [List.mem_singleton.mp q]
      exact .inr ⟨⟨0, by simp⟩, off⟩
/-- 57: the last part of what the topmost reference points to comes onto the stack -/
theorem MJ0.rem (I : MJ0 E H m ty fr nf na ak (fun _ => none)) (hE : EvOk E) (h1 : 1 ≤ (fr (nf - 1)).2.2.1.1) (h9 : ((fr (nf - 1)).2.2.1.2 ((fr (nf - 1)).2.2.1.1 - 1)).2.1 = 9) {cs : List Nat} {c : Nat} (hk : kds H ((fr (nf - 1)).2.2.1.2 ((fr (nf - 1)).2.2.1.1 - 1)).1 = cs ++ [c]) (ht : LTm E (ty ((fr (nf - 1)).2.2.1.2 ((fr (nf - 1)).2.2.1.1 - 1)).1) (setC (H ((fr (nf - 1)).2.2.1.2 ((fr (nf - 1)).2.2.1.1 - 1)).1) cs) (cs.map ty)) (hs : ∀ s, s.2.1 ≠ 0 → ((∃ k, k < (fr (nf - 1)).2.2.1.1 ∧ k ≠ (fr (nf - 1)).2.2.1.1 - 1 ∧ (fr (nf - 1)).2.2.1.2 k = s) ∨ ∃ k, (fr (nf - 1)).2.1 k = some s) → mt s.2.2.2.1 ((fr (nf - 1)).2.2.1.2 ((fr (nf - 1)).2.2.1.1 - 1)).2.2.2.1 → s.2.1 = 9 ∧ s.2.2.2.2 = false) : MJ0 E (upH H ((fr (nf - 1)).2.2.1.2 ((fr (nf - 1)).2.2.1.1 - 1)).1 (setC (H ((fr (nf - 1)).2.2.1.2 ((fr (nf - 1)).2.2.1.1 - 1)).1) cs)) m ty (setF fr (nf - 1) (pshV (setH (fr (nf - 1)) ((fr (nf - 1)).2.2.1.1 - 1)) (c, 0, ty c, 0, false))) nf na ak (fun _ => none) := by
  have so := I.soleN (j := (fr (nf - 1)).2.2.1.1 - 1) (by omega) h9 hs
  have s1 := I.sl.1 ((fr (nf - 1)).2.2.1.1 - 1) (by omega)
  have K := (I.drp 1).last hE s1.1 hk ht (fun d s q => so d s (rfa_drp (n := 1) q))
  have := K.psh (s := (c, 0, ty c, 0, false)) rfl rfl rfl
  rw [setF_s, setF_2] at this
  exact this
/-- 58: two parts of what the reference below two numbers points to change places -/
theorem MJ0.swp (I : MJ0 E H m ty fr nf na ak (fun _ => none)) (hE : EvOk E) (h3 : 3 ≤ (fr (nf - 1)).2.2.1.1) (h9 : ((fr (nf - 1)).2.2.1.2 ((fr (nf - 1)).2.2.1.1 - 3)).2.1 = 9) {p q : Nat} (hp : p ∈ kds H ((fr (nf - 1)).2.2.1.2 ((fr (nf - 1)).2.2.1.1 - 3)).1) (hq : q ∈ kds H ((fr (nf - 1)).2.2.1.2 ((fr (nf - 1)).2.2.1.1 - 3)).1) (ht : ty p = ty q) (hs : ∀ s, s.2.1 ≠ 0 → ((∃ k, k < (fr (nf - 1)).2.2.1.1 ∧ k ≠ (fr (nf - 1)).2.2.1.1 - 3 ∧ (fr (nf - 1)).2.2.1.2 k = s) ∨ ∃ k, (fr (nf - 1)).2.1 k = some s) → mt s.2.2.2.1 ((fr (nf - 1)).2.2.1.2 ((fr (nf - 1)).2.2.1.1 - 3)).2.2.2.1 → s.2.1 = 9 ∧ s.2.2.2.2 = false) : MJ0 E (upH (upH H p (H q)) q (H p)) m ty (setF fr (nf - 1) (setH (fr (nf - 1)) ((fr (nf - 1)).2.2.1.1 - 3))) nf na ak (fun _ => none) := by
  have so := I.soleN (j := (fr (nf - 1)).2.2.1.1 - 3) (by omega) h9 hs
  exact (I.drp 3).swap hE hp hq ht (fun d s x => so d s (rfa_drp (n := 3) x))
end
