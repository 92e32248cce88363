/-! BOTH MACHINES SIDE BY SIDE: comparing values, locals -/
section
variable {E : Ev} {F n : Nat} {sh : Nat → Nat × Nat} {pk : Nat → Nat} {kt : Nat} {sl0 : Int32} {lim e : Nat} {zr zc zr' zc' : St} {H : Hp} {m : Nat} {ty : Nat → Nat} {fr : Nat → Fm} {nf na : Nat} {ak : Nat → Ask} {g g' : Nat} {Hc : Hp} {mc : Nat} {phi : Nat → Nat} {Rn : Nat → Option Nat} {cs cl : Nat → Nat → Nat} {cn : Nat → Nat} {ws : Nat → Int64 → Nat → Bool} {u : Nat} {U : Md} {ls : List Ty} {L L' : Lks} {R C : Option (St × Unit)}
theorem Sm.pu (h : Sm E sh n pk kt sl0 lim e zr zc H m ty fr nf na ak g Hc mc phi Rn cs cl cn ws) : PU H := h.1.1.1.1
/-- 36, 37 -/
theorem sim_like (hF : 300 ≤ F) (h : Sm E sh n pk kt sl0 lim 1 zr zc H m ty fr nf na ak g Hc mc phi Rn cs cl cn ws) (hE : EvOk E) (hA : EvA E) (hU : UOk E u U) (fm : FM U ls (fr (nf - 1)) L) {o : Nat} (ho : o = 36 ∨ o = 37) (h2 : 2 ≤ L.1.1) (t1 : isR (L.1.2 (L.1.1 - 1)).1 = false) (t2 : (L.1.2 (L.1.1 - 2)).1 = (L.1.2 (L.1.1 - 1)).1) (hp : lPush ([1], 0, false) ((L.1.1 - 2, L.1.2), L.2) = .ok L') : Out E sh n pk kt sl0 lim zr zc fr nf na ak g ws U ls L' (fun i => i = (fr (nf - 1)).1.2.2) (fn_X18_reckon F sh n zr 337 (nI o)) (fn_X4_reckon F sh n zc 87 (nI o)) := by
  obtain ⟨r1, r2⟩ := h.rooms
  have hh := fm.1
  have s1 := fm.2.2.1 (L.1.1 - 1) (by omega)
  have s2 := fm.2.2.1 (L.1.1 - 2) (by omega)
  have p1 := s1.2.pl t1
  obtain ⟨b0, b1, b2, b3, b4⟩ := h.pl (k := (fr (nf - 1)).2.2.1.1 - 1) (by omega) (by rw [hh]; exact s1.1) p1
  obtain ⟨a0, a1, a2, a3, a4⟩ := h.pl (k := (fr (nf - 1)).2.2.1.1 - 2) (by omega) (by rw [hh]; exact s2.1) (by rw [t2]; exact p1)
  rw [t2] at a3
  have ta := h.ht.tr39 hE a2
  have tb := h.ht.tr39 hE b2
  have ka := (h.ht.2 _ a2).2.1.kt.1
  have kb := (h.ht.2 _ b2).2.1.kt.1
  rw [a3] at ka
  rw [b3] at kb
  have n11 : sT U.2.2.2.1 (L.1.2 (L.1.1 - 1)).1 ≠ 11 := sT_n11 p1
  have ca := h.2.2.2.2.1.tr hA h.2.2.2.2.2.2.2.1 h.ht 39 _ ta (by rw [a3]; exact n11)
  have cb := h.2.2.2.2.1.tr hA h.2.2.2.2.2.2.2.1 h.ht 39 _ tb (by rw [b3]; exact n11)
  have al := h.2.2.2.2.1.alike hA h.2.2.2.2.2.2.2.1 h.ht 39 _ _ ta tb (by rw [a3, b3]) (by rw [a3]; exact n11)
  have za := szM_le (d := 39) hE h.ht h.pu a2
  have zb := szM_le (d := 39) hE h.ht h.pu b2
  have RL := h.2.1.like (F := F) hF (by omega) h.h64 b0 a0 rfl rfl ta tb (by omega) (by rw [ka, kb]) ho (by omega) (by omega)
  have hab : (Hc (phi ((fr (nf - 1)).2.2.1.2 ((fr (nf - 1)).2.2.1.1 - 2)).1)).1 = (Hc (phi ((fr (nf - 1)).2.2.1.2 ((fr (nf - 1)).2.2.1.1 - 1)).1)).1 := by
    rcases h.2.2.2.2.1.1 _ a2 (by rw [a3]; exact n11) with ⟨x1, x2, _⟩ | ⟨x1, x2, _⟩
    · rcases h.2.2.2.2.1.1 _ b2 (by rw [b3]; exact n11) with ⟨y1, y2, _⟩ | ⟨y1, _⟩
      · rw [x2, y2]
      · exact absurd (by rw [b3, ← a3]; exact x1) y1
    · rcases h.2.2.2.2.1.1 _ b2 (by rw [b3]; exact n11) with ⟨y1, _⟩ | ⟨y1, y2, _⟩
      · exact absurd (by rw [a3, ← b3]; exact y1) x1
      · rw [x2, y2, ka, kb]
  have CL := h.2.2.1.like (F := F) hF (by omega) a1 b1 (h.2.2.2.2.1.al a2 (by rw [a3]; exact n11)) (h.2.2.2.2.1.al b2 (by rw [b3]; exact n11)) hab ca.1 cb.1 (by omega) ho (by omega) (by rw [ca.2, cb.2]; omega) (m, 0, 1, 0, false)
  rw [ca.2, cb.2, al] at CL
  by_cases c : g + (szM H 39 ((fr (nf - 1)).2.2.1.2 ((fr (nf - 1)).2.2.1.1 - 2)).1 + szM H 39 ((fr (nf - 1)).2.2.1.2 ((fr (nf - 1)).2.2.1.1 - 1)).1) ≤ lim
  · obtain ⟨z1, q1, q2, q3⟩ := RL.1 c
    obtain ⟨z2, c1, c2, c3⟩ := CL.1 c
    exact Out.num h hE hU fm (c := 2) h2 (by omega) (by omega) (LTm_tr (by split <;> simp)) hp (by omega) q1 c1 q2 c2 q3 c3
  · obtain ⟨z1, q1, q2, q3⟩ := RL.2 (by omega)
    obtain ⟨z2, c1, c2, c3⟩ := CL.2 (by omega)
    exact Out.end 2 5 lim (.inr rfl) q1 c1 q2 c2 q3 c3.x
end
