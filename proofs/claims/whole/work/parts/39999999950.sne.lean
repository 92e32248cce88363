/-! BOTH MACHINES SIDE BY SIDE: arguments -/
section
variable {E : Ev} {F n : Nat} {sh : Nat → Nat × Nat} {pk : Nat → Nat} {kt : Nat} {sl0 : Int32} {lim : Nat} {z : St} {na : Nat} {ak : Nat → Ask} {g : Nat} {H : Hp} {m : Nat} {u f c p : Nat} {kd ps ts : Nat → Nat} {hi lo : Nat → Int64} {cs cl : Nat → Nat → Nat}
/-- the class: an argument becomes a local -/
theorem CM.arg (h : CM sh n z pk kt H m sl0 (frA u f p ps ts) cs cl 1 g lim) (hp : p < 40) (hm : m < 21600) {k : Nat} {x y : Int64} (hk : k < 11) (hi : ¬ inn k) (hcl : cl 0 p = m) : fn_X1_make F sh n z 88 (nI k) x y = some (mkS z m (nI k) x y, nI m) ∧ CM sh n (si (mkS z m (nI k) x y) 102 p (nI m)) pk kt (upH H m (k, x, y, [])) (m + 1) sl0 (frA u f (p + 1) ps ts) cs cl 1 g lim ∧ FrC z (si (mkS z m (nI k) x y) 102 p (nI m)) := by
  have kk := h.2.2.2.2.1.2.2.1
  have mk := make_t (F := F) (k := k) (x := x) (y := y) h.1 h.2.1.1 h.2.1.2.1 hm hk
  have f1 : Fr 88 92 z (mkS z m (nI k) x y) := mk_fr
  have H1 : HC (mkS z m (nI k) x y) (upH H m (k, x, y, [])) (m + 1) sl0 := mk_H h.2.1 hm hk rfl (fun q => absurd q hi) (fun _ => ⟨rfl, rfl, rfl⟩)
  have e0 : ∀ j, j ≠ 102 → (si (mkS z m (nI k) x y) 102 p (nI m)).1 j = (mkS z m (nI k) x y).1 j := fun j hj => by funext i; simp [si_1, hj]
  have e1 : ∀ j, j ≠ 102 → ¬ (88 ≤ j ∧ j ≤ 92) → (si (mkS z m (nI k) x y) 102 p (nI m)).1 j = z.1 j := fun j hj hj2 => (e0 j hj).trans (f1.2 j hj2).1
  obtain ⟨c1, c2, c3, c4⟩ := h.2.2.1
  obtain ⟨b1, b2, b3, b4, b5, b6, b7, b8⟩ := c4 0 (by omega)
  refine ⟨mk, h.mov f1.1 (fun j _ _ => by rw [e1 87 (by decide) (by omega)]) (by show (mkS z m (nI k) x y).2.1 87 17 = _; rw [(f1.2 87 (by omega)).2]) (e1 kt (by omega) (by omega)) (H1.mv (fun j a b => ⟨e0 j (by omega), rfl⟩)) ⟨by rw [e1 87 (by decide) (by omega)]; exact c1, c2, c3, fun d hd => ?_⟩, ?_⟩
  · have d0 : d = 0 := by omega
    subst d0
    refine ⟨b1, by show (mkS z m (nI k) x y).2.2 98 0 = _; rw [f1.1]; exact b2, by rw [e1 99 (by decide) (by omega)]; exact b3, by rw [e1 100 (by decide) (by omega)]; exact b4, by rw [e1 101 (by decide) (by omega)]; exact b5, fun i hi => absurd hi (by show ¬ i < 0; omega), fun i s hs => ?_, fun i h40 hs => ?_⟩
    rotate_left
    · have hs' : (if i < p + 1 then some ((ps i, 0, ts i, 0, false) : Sl) else none) = none := hs
      have il : ¬ i < p + 1 := fun w => by rw [if_pos w] at hs'; exact absurd hs' (by simp)
      refine (b8 i h40 (show (if i < p then some ((ps i, 0, ts i, 0, false) : Sl) else none) = none by rw [if_neg (by omega)])).imp (fun w => ?_) (fun w => w)
      rw [Nat.zero_mul, Nat.zero_add] at w ⊢
      have : (si (mkS z m (nI k) x y) 102 p (nI m)).1 102 i = (mkS z m (nI k) x y).1 102 i := by simp [si_1, show i ≠ p by omega]
      rw [this, (f1.2 102 (by omega)).1]; exact w
    have hs' : (if i < p + 1 then some ((ps i, 0, ts i, 0, false) : Sl) else none) = some s := hs
    by_cases ip : i = p
    · subst ip
      refine ⟨hp, ?_⟩
      rw [Nat.zero_mul, Nat.zero_add, hcl]
      simp [si_1]
    · have il : i < p := by
        by_cases w : i < p + 1
        · omega
        · rw [if_neg w] at hs'; exact absurd hs' (by simp)
      rw [if_pos (by omega)] at hs'
      obtain ⟨y1, y2⟩ := b7 i s (by show (if i < p then some ((ps i, 0, ts i, 0, false) : Sl) else none) = some s; rw [if_pos il]; exact hs')
      refine ⟨y1, ?_⟩
      rw [Nat.zero_mul, Nat.zero_add] at y2 ⊢
      have : (si (mkS z m (nI k) x y) 102 p (nI m)).1 102 i = (mkS z m (nI k) x y).1 102 i := by simp [si_1, ip]
      rw [this, (f1.2 102 (by omega)).1]; exact y2
  · exact (FrC.hp f1).trans ⟨rfl, fun j j1 j2 j3 => ⟨e0 j (by omega), rfl⟩, fun j _ => by rw [e0 87 (by decide)], fun _ _ => rfl⟩
end
