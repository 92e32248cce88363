/-! WHAT THE LAW ASKS OF EACH METHOD: an invariant of one state, q turns behind the start -/
def IV (RV : RtV) (q : Nat) (sh : Nat → Nat × Nat) (n : Nat) (z : St) : Prop := Top RV sh n z z ∧ Kpt n z ∧ n ≤ 513 + q
section
variable {RV : RtV} {q n : Nat} {sh : Nat → Nat × Nat} {z : St}
theorem IV.at (h : IV RV q sh n z) : lk z n ∧ okO sh n 0 11 = true ∧ okO sh n 337 18 = true ∧ IV RV (q + 1) sh n z := ⟨h.2.1.1, (b_ledg h.1.lay.1).1, (b_model h.1.lay.1).1, h.1, h.2.1, by have := h.2.2; omega⟩
theorem lw_type (y0 : Int64) (y1 : Int32) (hq : q ≤ 512) (h : IV RV q sh n z) : ∃ F z1 z2 r, fn_X11_type F sh n z 0 y0 y1 = some (z1, r) ∧ fn_X18_type F sh n z1 337 y0 y1 = some (z2, r) ∧ IV RV (q + 1) sh n z2 := by
  obtain ⟨h1, h2, h3⟩ := h
  have hb : n ≤ 10 ^ 12 := by omega
  obtain ⟨z1, z2, r, a, b, c, d⟩ := Top.both (C := fun z => fn_X11_type 20002 sh n z 0 y0 y1) (M := fun z => fn_X18_type 20002 sh n z 337 y0 y1) (fun z y t => m_type (F := 20002) (by omega) y0 y1 hb t) (kC_type y0 y1) (kM_type y0 y1) hb h1 h2
  exact ⟨20002, z1, z2, r, a, b, c, d, by omega⟩
theorem lw_mint (y0 : Int64) (y1 : Int64) (hq : q ≤ 512) (h : IV RV q sh n z) : ∃ F z1 z2 r, fn_X11_mint F sh n z 0 y0 y1 = some (z1, r) ∧ fn_X18_mint F sh n z1 337 y0 y1 = some (z2, r) ∧ IV RV (q + 1) sh n z2 := by
  obtain ⟨h1, h2, h3⟩ := h
  have hb : n ≤ 10 ^ 12 := by omega
  obtain ⟨z1, z2, r, a, b, c, d⟩ := Top.both (C := fun z => fn_X11_mint 20002 sh n z 0 y0 y1) (M := fun z => fn_X18_mint 20002 sh n z 337 y0 y1) (fun z y t => m_mint (F := 20002) (by omega) y0 y1 hb t) (kC_mint y0 y1) (kM_mint y0 y1) hb h1 h2
  exact ⟨20002, z1, z2, r, a, b, c, d, by omega⟩
theorem lw_begin (hq : q ≤ 512) (h : IV RV q sh n z) : ∃ F z1 z2 r, fn_X11_begin F sh n z 0 = some (z1, r) ∧ fn_X18_begin F sh n z1 337 = some (z2, r) ∧ IV RV (q + 1) sh n z2 := by
  obtain ⟨h1, h2, h3⟩ := h
  have hb : n ≤ 10 ^ 12 := by omega
  obtain ⟨z1, z2, r, a, b, c, d⟩ := Top.both (C := fun z => fn_X11_begin 20002 sh n z 0) (M := fun z => fn_X18_begin 20002 sh n z 337) (fun z y t => m_begin (F := 20002) t) (kC_begin) (kM_begin) hb h1 h2
  exact ⟨20002, z1, z2, r, a, b, c, d, by omega⟩
theorem lw_call (y0 : Int64) (y1 : Int64) (y2 : Int32) (y3 : Int32) (y4 : Int32) (hq : q ≤ 512) (h : IV RV q sh n z) : ∃ F z1 z2 r, fn_X11_call F sh n z 0 y0 y1 y2 y3 y4 = some (z1, r) ∧ fn_X18_call F sh n z1 337 y0 y1 y2 y3 y4 = some (z2, r) ∧ IV RV (q + 1) sh n z2 := by
  obtain ⟨h1, h2, h3⟩ := h
  have hb : n ≤ 10 ^ 12 := by omega
  obtain ⟨z1, z2, r, a, b, c, d⟩ := Top.both (C := fun z => fn_X11_call 20002 sh n z 0 y0 y1 y2 y3 y4) (M := fun z => fn_X18_call 20002 sh n z 337 y0 y1 y2 y3 y4) (fun z y t => m_call (F := 20002) y0 y1 y2 y3 y4 hb t) (kC_call y0 y1 y2 y3 y4) (kM_call y0 y1 y2 y3 y4) hb h1 h2
  exact ⟨20002, z1, z2, r, a, b, c, d, by omega⟩
theorem lw_argument (y0 : Int32) (y1 : Int64) (y2 : Int64) (hq : q ≤ 512) (h : IV RV q sh n z) : ∃ F z1 z2 r, fn_X11_argument F sh n z 0 y0 y1 y2 = some (z1, r) ∧ fn_X18_argument F sh n z1 337 y0 y1 y2 = some (z2, r) ∧ IV RV (q + 1) sh n z2 := by
  obtain ⟨h1, h2, h3⟩ := h
  have hb : n ≤ 10 ^ 12 := by omega
  obtain ⟨z1, z2, r, a, b, c, d⟩ := Top.both (C := fun z => fn_X11_argument 20002 sh n z 0 y0 y1 y2) (M := fun z => fn_X18_argument 20002 sh n z 337 y0 y1 y2) (fun z y t => m_argument (F := 20002) y0 y1 y2 hb t) (kC_argument y0 y1 y2) (kM_argument y0 y1 y2) hb h1 h2
  exact ⟨20002, z1, z2, r, a, b, c, d, by omega⟩
theorem lw_weave (y0 : Int64) (hq : q ≤ 512) (h : IV RV q sh n z) : ∃ F z1 z2 r, fn_X11_weave F sh n z 0 y0 = some (z1, r) ∧ fn_X18_weave F sh n z1 337 y0 = some (z2, r) ∧ IV RV (q + 1) sh n z2 := by
  obtain ⟨h1, h2, h3⟩ := h
  have hb : n ≤ 10 ^ 12 := by omega
  obtain ⟨z1, z2, r, a, b, c, d⟩ := Top.both (C := fun z => fn_X11_weave 20002 sh n z 0 y0) (M := fun z => fn_X18_weave 20002 sh n z 337 y0) (fun z y t => m_weave (F := 20002) y0 hb t) (kC_weave y0) (kM_weave y0) hb h1 h2
  exact ⟨20002, z1, z2, r, a, b, c, d, by omega⟩
theorem lw_unweave (hq : q ≤ 512) (h : IV RV q sh n z) : ∃ F z1 z2 r, fn_X11_unweave F sh n z 0 = some (z1, r) ∧ fn_X18_unweave F sh n z1 337 = some (z2, r) ∧ IV RV (q + 1) sh n z2 := by
  obtain ⟨h1, h2, h3⟩ := h
  have hb : n ≤ 10 ^ 12 := by omega
  obtain ⟨z1, z2, r, a, b, c, d⟩ := Top.both (C := fun z => fn_X11_unweave 20002 sh n z 0) (M := fun z => fn_X18_unweave 20002 sh n z 337) (fun z y t => m_unweave (F := 20002) hb t) (kC_unweave) (kM_unweave) hb h1 h2
  exact ⟨20002, z1, z2, r, a, b, c, d, by omega⟩
theorem lw_execute (hq : q ≤ 512) (h : IV RV q sh n z) : ∃ F z1 z2 r, fn_X11_execute F sh n z 0 = some (z1, r) ∧ fn_X18_execute F sh n z1 337 = some (z2, r) ∧ IV RV (q + 1) sh n z2 := by
  obtain ⟨h1, h2, h3⟩ := h
  have hb : n ≤ 10 ^ 12 := by omega
  obtain ⟨z1, z2, r, a, b, c, d⟩ := Top.both (C := fun z => fn_X11_execute 20002 sh n z 0) (M := fun z => fn_X18_execute 20002 sh n z 337) (fun z y t => m_execute (F := 20002) (by omega) hb t) (kC_execute) (kM_execute) hb h1 h2
  exact ⟨20002, z1, z2, r, a, b, c, d, by omega⟩
theorem lw_told (y0 : Int32) (y1 : Int32) (hq : q ≤ 512) (h : IV RV q sh n z) : ∃ F z1 z2 r, fn_X11_told F sh n z 0 y0 y1 = some (z1, r) ∧ fn_X18_told F sh n z1 337 y0 y1 = some (z2, r) ∧ IV RV (q + 1) sh n z2 := by
  obtain ⟨h1, h2, h3⟩ := h
  have hb : n ≤ 10 ^ 12 := by omega
  obtain ⟨z1, z2, r, a, b, c, d⟩ := Top.both (C := fun z => fn_X11_told 20002 sh n z 0 y0 y1) (M := fun z => fn_X18_told 20002 sh n z 337 y0 y1) (fun z y t => m_told (F := 20002) y0 y1 t) (kC_told y0 y1) (kM_told y0 y1) hb h1 h2
  exact ⟨20002, z1, z2, r, a, b, c, d, by omega⟩
theorem lw_code (y0 : Int32) (hq : q ≤ 512) (h : IV RV q sh n z) : ∃ F z1 z2 r, fn_X11_code F sh n z 0 y0 = some (z1, r) ∧ fn_X18_code F sh n z1 337 y0 = some (z2, r) ∧ IV RV (q + 1) sh n z2 := by
  obtain ⟨h1, h2, h3⟩ := h
  have hb : n ≤ 10 ^ 12 := by omega
  obtain ⟨z1, z2, r, a, b, c, d⟩ := Top.both (C := fun z => fn_X11_code 20002 sh n z 0 y0) (M := fun z => fn_X18_code 20002 sh n z 337 y0) (fun z y t => m_code (F := 20002) y0 t) (kC_code y0) (kM_code y0) hb h1 h2
  exact ⟨20002, z1, z2, r, a, b, c, d, by omega⟩
theorem lw_result (y0 : Int32) (y1 : Int32) (y2 : Int32) (hq : q ≤ 512) (h : IV RV q sh n z) : ∃ F z1 z2 r, fn_X11_result F sh n z 0 y0 y1 y2 = some (z1, r) ∧ fn_X18_result F sh n z1 337 y0 y1 y2 = some (z2, r) ∧ IV RV (q + 1) sh n z2 := by
  obtain ⟨h1, h2, h3⟩ := h
  have hb : n ≤ 10 ^ 12 := by omega
  obtain ⟨z1, z2, r, a, b, c, d⟩ := Top.both (C := fun z => fn_X11_result 20002 sh n z 0 y0 y1 y2) (M := fun z => fn_X18_result 20002 sh n z 337 y0 y1 y2) (fun z y t => m_result (F := 20002) y0 y1 y2 t) (kC_result y0 y1 y2) (kM_result y0 y1 y2) hb h1 h2
  exact ⟨20002, z1, z2, r, a, b, c, d, by omega⟩
theorem lw_account (y0 : Int64) (y1 : Int32) (hq : q ≤ 512) (h : IV RV q sh n z) : ∃ F z1 z2 r, fn_X11_account F sh n z 0 y0 y1 = some (z1, r) ∧ fn_X18_account F sh n z1 337 y0 y1 = some (z2, r) ∧ IV RV (q + 1) sh n z2 := by
  obtain ⟨h1, h2, h3⟩ := h
  have hb : n ≤ 10 ^ 12 := by omega
  obtain ⟨z1, z2, r, a, b, c, d⟩ := Top.both (C := fun z => fn_X11_account 20002 sh n z 0 y0 y1) (M := fun z => fn_X18_account 20002 sh n z 337 y0 y1) (fun z y t => m_account (F := 20002) (by omega) y0 y1 t) (kC_account y0 y1) (kM_account y0 y1) hb h1 h2
  exact ⟨20002, z1, z2, r, a, b, c, d, by omega⟩
theorem lw_places (y0 : Int32) (hq : q ≤ 512) (h : IV RV q sh n z) : ∃ F z1 z2 r, fn_X11_places F sh n z 0 y0 = some (z1, r) ∧ fn_X18_places F sh n z1 337 y0 = some (z2, r) ∧ IV RV (q + 1) sh n z2 := by
  obtain ⟨h1, h2, h3⟩ := h
  have hb : n ≤ 10 ^ 12 := by omega
  obtain ⟨z1, z2, r, a, b, c, d⟩ := Top.both (C := fun z => fn_X11_places 20002 sh n z 0 y0) (M := fun z => fn_X18_places 20002 sh n z 337 y0) (fun z y t => m_places (F := 20002) y0 t) (kC_places y0) (kM_places y0) hb h1 h2
  exact ⟨20002, z1, z2, r, a, b, c, d, by omega⟩
theorem lw_byteOf (y0 : Int32) (hq : q ≤ 512) (h : IV RV q sh n z) : ∃ F z1 z2 r, fn_X11_byteOf F sh n z 0 y0 = some (z1, r) ∧ fn_X18_byteOf F sh n z1 337 y0 = some (z2, r) ∧ IV RV (q + 1) sh n z2 := by
  obtain ⟨h1, h2, h3⟩ := h
  have hb : n ≤ 10 ^ 12 := by omega
  obtain ⟨z1, z2, r, a, b, c, d⟩ := Top.both (C := fun z => fn_X11_byteOf 20002 sh n z 0 y0) (M := fun z => fn_X18_byteOf 20002 sh n z 337 y0) (fun z y t => m_byteOf (F := 20002) y0 t) (kC_byteOf y0) (kM_byteOf y0) hb h1 h2
  exact ⟨20002, z1, z2, r, a, b, c, d, by omega⟩
theorem lw_slips (hq : q ≤ 512) (h : IV RV q sh n z) : ∃ F z1 z2 r, fn_X11_slips F sh n z 0 = some (z1, r) ∧ fn_X18_slips F sh n z1 337 = some (z2, r) ∧ IV RV (q + 1) sh n z2 := by
  obtain ⟨h1, h2, h3⟩ := h
  have hb : n ≤ 10 ^ 12 := by omega
  obtain ⟨z1, z2, r, a, b, c, d⟩ := Top.both (C := fun z => fn_X11_slips 20002 sh n z 0) (M := fun z => fn_X18_slips 20002 sh n z 337) (fun z y t => m_slips (F := 20002) t) (kC_slips) (kM_slips) hb h1 h2
  exact ⟨20002, z1, z2, r, a, b, c, d, by omega⟩
theorem lw_publish (y0 : Int64) (y1 : Int64) (y2 : Int32) (hq : q ≤ 512) (h : IV RV q sh n z) : ∃ F sh1 n1 z1 z2 r, fa_X11_publish F sh n z 0 y0 y1 y2 = some (sh1, n1, z1, r) ∧ fn_X18_publish F sh1 n1 z1 337 y0 y1 y2 = some (z2, r) ∧ IV RV (q + 1) sh1 n1 z2 := by
  obtain ⟨h1, ⟨k1, k2, k3⟩, h3⟩ := h
  have hc : n < CBK := by
    have : CBK = 1000000000 := rfl
    omega
  have hb : n ≤ 10 ^ 12 := by omega
  obtain ⟨sh1, n1, w, z1, r, a1, a2, a3, f1, f2, f3, f4, f5⟩ := m_publish (F := 20002) (by omega) y0 y1 y2 hc h1
  have n513 := h1.lay.1.1
  have L1 : Lay sh n z1 := ⟨n513, h1.lay.1.2.1, a3.lay.2.2.2⟩
  obtain ⟨sh2, n2, z2, w2, r2, b1, b2, b3, _⟩ := m_publish (F := 20002) (by omega) y0 y1 y2 hc (h1.eqR hb L1 f4)
  rw [a1] at b1
  obtain ⟨c1, c2⟩ := Prod.mk.inj (Option.some.inj b1)
  obtain ⟨c2, c3⟩ := Prod.mk.inj c2
  obtain ⟨c3, c4⟩ := Prod.mk.inj c3
  subst c1 c2 c3 c4
  have hb1 : n1 ≤ 10 ^ 12 := by omega
  have q1 : lk z1 n1 := fun k j q e => by
    rcases f5 k j q e with e' | ⟨_, e1, e2⟩
    · rcases k1 k j q e' with e3 | e3
      · exact .inl (by omega)
      · exact .inr e3
    · exact .inl (by omega)
  have q2 : LkG inC z1 := fun k j q g e => by
    rcases f5 k j q e with e' | ⟨_, e1, e2⟩
    · exact k2 k j q g e'
    · exact .inr (by omega)
  have q3 : LkG inR z1 := lkG_R f4 k3
  have km := kM_publish (F := 20002) (sh := sh1) (n := n1) y0 y1 y2 z1 (by omega) q1 q3
  have g2 := km.2 z2 r b2
  have e2 := rg_eqC g2
  exact ⟨20002, sh1, n1, z1, z2, r, a1, b2, b3.eqC hb1 b3.lay.1 e2, ⟨km.1 z2 r b2, lkG_C e2 q2, g2.2⟩, by omega⟩
end
