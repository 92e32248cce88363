/-! THE CLASS'S LOOKER: abilities, references taken -/
section
variable {F n : Nat} {sh : Nat → Nat × Nat} {z z' : St} {kp f w ns : Nat} {ls : List Ty} {L : Lks} {U : Md}
theorem CB.has (hF : 300 ≤ F) (h : CB sh n z kp f w) (hk : okO sh n kp 5 = true) (hu : ∀ s, s < U.1.2.2 → fn_X5_structureColumn F sh n z kp (nI s) 0 = some (z, nI (U.2.1 s))) (hm : MdO U) {t : Ty} (ht : TBr U.1.2.2 t) : fn_X3_has F sh n z 62 (tL t) 1 = some (z, bI (hasC U t)) ∧ fn_X3_has F sh n z 62 (tL t) 2 = some (z, bI (hasD U t)) ∧ fn_X3_has F sh n z 62 (tL t) 8 = some (z, bI (hasK U t)) := by
  have hs : ∀ s, endS t = some s → fn_X5_structureColumn F sh n z kp (nI s) 0 = some (z, nI (U.2.1 s)) ∧ U.2.1 s < 16 := fun s q => ⟨hu s (ht.2.2 s q), hm.1 s (ht.2.2 s q)⟩
  have ab := abilC_t (F := F) hF ht.1 hk hs
  have a16 : abT U t < 16 := abT_16 (fun s q => (hs s q).2)
  obtain ⟨m1, m2, m3⟩ := ab1 _ a16
  have O := h.o3
  refine ⟨?_, ?_, ?_⟩
  · unfold fn_X3_has hasC
    rw [O, grd_true, h.2.1, lnk_s, hk, grd_true, ab, cal_s]
    by_cases c : abT U t % 2 = 0
    · rw [if_pos (m1.mpr c), c]; rfl
    · rw [if_neg (fun q => c (m1.mp q)), show abT U t % 2 = 1 by omega]; rfl
  · unfold fn_X3_has hasD
    rw [O, grd_true, h.2.1, lnk_s, hk, grd_true, ab, cal_s]
    by_cases c : abT U t / 2 % 2 = 0
    · rw [if_pos (m2.mpr c), c]; rfl
    · rw [if_neg (fun q => c (m2.mp q)), show abT U t / 2 % 2 = 1 by omega]; rfl
  · unfold fn_X3_has hasK
    rw [O, grd_true, h.2.1, lnk_s, hk, grd_true, ab, cal_s]
    by_cases c : abT U t / 8 % 2 = 0
    · rw [if_pos (m3.mpr c), c]; rfl
    · rw [if_neg (fun q => c (m3.mp q)), show abT U t / 8 % 2 = 1 by omega]; rfl
theorem CB.fail5 (h : CB sh n z kp f 0) {v : Int32} (q : fn_X3_fail F sh n z 62 v = some (z', ())) : z'.2.1 62 14 = z.2.1 62 14 ∧ z'.1 62 15 = z.1 62 15 := by
  unfold fn_X3_fail at q
  rw [h.o3, grd_true, h.2.2.2.1.1, if_pos (show nI 0 = 0 from rfl), lt_t] at q
  cases q
  exact ⟨rfl, by rw [si_oj (by omega)]⟩
end
