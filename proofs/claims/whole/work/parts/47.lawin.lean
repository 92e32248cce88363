/-- the law's words by lists: a word is looked up by its list and its place there -/
def lw_ck : List (List Cond) := [k2_sels lw_privs, tables_1_1, tables_1_2, tables_1_3, tables_1_4, tables_1_5, tables_1_6, tables_1_7, tables_1_8, tables_1_9, tables_1_10, tables_1_11, tables_1_12, tables_1_13]
theorem lw_ck_in : ∀ c ∈ lw_ck, ∀ w ∈ c, w ∈ lw_tbl := by
  intro c hc w hw
  simp only [lw_ck, List.mem_cons, List.not_mem_nil, or_false] at hc
  rcases hc with rfl | rfl | rfl | rfl | rfl | rfl | rfl | rfl | rfl | rfl | rfl | rfl | rfl | rfl
  · exact List.mem_append_left _ hw
  · exact List.mem_append_right _ (List.mem_append_left _ hw)
  · exact List.mem_append_right _ (List.mem_append_right _ (List.mem_append_left _ hw))
  · exact List.mem_append_right _ (List.mem_append_right _ (List.mem_append_right _ (List.mem_append_left _ hw)))
  · exact List.mem_append_right _ (List.mem_append_right _ (List.mem_append_right _ (List.mem_append_right _ (List.mem_append_left _ hw))))
  · exact List.mem_append_right _ (List.mem_append_right _ (List.mem_append_right _ (List.mem_append_right _ (List.mem_append_right _ (List.mem_append_left _ hw)))))
  · exact List.mem_append_right _ (List.mem_append_right _ (List.mem_append_right _ (List.mem_append_right _ (List.mem_append_right _ (List.mem_append_right _ (List.mem_append_left _ hw))))))
  · exact List.mem_append_right _ (List.mem_append_right _ (List.mem_append_right _ (List.mem_append_right _ (List.mem_append_right _ (List.mem_append_right _ (List.mem_append_right _ (List.mem_append_left _ hw)))))))
  · exact List.mem_append_right _ (List.mem_append_right _ (List.mem_append_right _ (List.mem_append_right _ (List.mem_append_right _ (List.mem_append_right _ (List.mem_append_right _ (List.mem_append_right _ (List.mem_append_left _ hw))))))))
  · exact List.mem_append_right _ (List.mem_append_right _ (List.mem_append_right _ (List.mem_append_right _ (List.mem_append_right _ (List.mem_append_right _ (List.mem_append_right _ (List.mem_append_right _ (List.mem_append_right _ (List.mem_append_left _ hw)))))))))
  · exact List.mem_append_right _ (List.mem_append_right _ (List.mem_append_right _ (List.mem_append_right _ (List.mem_append_right _ (List.mem_append_right _ (List.mem_append_right _ (List.mem_append_right _ (List.mem_append_right _ (List.mem_append_right _ (List.mem_append_left _ hw))))))))))
  · exact List.mem_append_right _ (List.mem_append_right _ (List.mem_append_right _ (List.mem_append_right _ (List.mem_append_right _ (List.mem_append_right _ (List.mem_append_right _ (List.mem_append_right _ (List.mem_append_right _ (List.mem_append_right _ (List.mem_append_right _ (List.mem_append_left _ hw)))))))))))
  · exact List.mem_append_right _ (List.mem_append_right _ (List.mem_append_right _ (List.mem_append_right _ (List.mem_append_right _ (List.mem_append_right _ (List.mem_append_right _ (List.mem_append_right _ (List.mem_append_right _ (List.mem_append_right _ (List.mem_append_right _ (List.mem_append_right _ (List.mem_append_left _ hw))))))))))))
  · exact List.mem_append_right _ (List.mem_append_right _ (List.mem_append_right _ (List.mem_append_right _ (List.mem_append_right _ (List.mem_append_right _ (List.mem_append_right _ (List.mem_append_right _ (List.mem_append_right _ (List.mem_append_right _ (List.mem_append_right _ (List.mem_append_right _ (List.mem_append_right _ (hw)))))))))))))
theorem lw_ck_at {w : Cond} (k i : Nat) (h : (lw_ck[k]?.bind (fun c => c[i]?)) = some w) : w ∈ lw_tbl := by
  obtain ⟨c, hc, hw⟩ := Option.bind_eq_some_iff.mp h
  exact lw_ck_in c (List.mem_of_getElem? hc) w (List.mem_of_getElem? hw)
theorem in_k (ws : List Cond) (ps : List (Nat × Nat)) (hp : ws = ps.filterMap (fun q => lw_ck[q.1]?.bind (fun c => c[q.2]?))) : ∀ w ∈ ws, w ∈ lw_tbl := fun w hw => by
  rw [hp] at hw
  obtain ⟨q, -, hq⟩ := List.mem_filterMap.mp hw
  exact lw_ck_at q.1 q.2 hq
theorem goodIn_k (ws : List Cond) (ps : List (Nat × Nat)) (hp : ws = ps.filterMap (fun q => lw_ck[q.1]?.bind (fun c => c[q.2]?))) (h : ws.all goodWord = true) : GoodIn lw_tbl ws := goodIn_sub (in_k ws ps hp) h
set_option maxRecDepth 100000 in
theorem itX0 : ∀ w ∈ wsX00, w ∈ lw_tbl := in_k _ [(2, 70), (2, 72), (2, 74), (2, 76)] rfl
set_option maxRecDepth 100000 in
theorem itX1 : ∀ w ∈ wsX10, w ∈ lw_tbl := in_k _ [(2, 145), (2, 147), (2, 149), (2, 151), (2, 153), (2, 155), (2, 157)] rfl
set_option maxRecDepth 100000 in
theorem itX2 : ∀ w ∈ wsX20, w ∈ lw_tbl := in_k _ [(2, 207), (2, 209), (2, 211), (2, 213), (2, 215), (2, 217), (2, 219), (2, 221), (2, 223), (2, 225), (2, 227)] rfl
set_option maxRecDepth 100000 in
theorem itX3 : ∀ w ∈ wsX30, w ∈ lw_tbl := in_k _ [(2, 8), (2, 10), (2, 12), (2, 14), (2, 16), (2, 18), (2, 20), (2, 22), (2, 24), (2, 26), (2, 28), (2, 30), (2, 32), (2, 34), (2, 36), (2, 38), (2, 40), (2, 42), (2, 44), (2, 46), (2, 48), (2, 50)] rfl
set_option maxRecDepth 100000 in
theorem itX4 : ∀ w ∈ wsX40, w ∈ lw_tbl := in_k _ [(3, 8), (3, 10), (3, 12), (3, 14), (3, 16), (3, 18), (3, 20), (3, 22), (3, 24), (3, 26), (3, 28), (3, 30), (3, 32), (3, 34), (3, 36), (3, 38), (3, 40), (3, 42)] rfl
set_option maxRecDepth 100000 in
theorem itX5 : ∀ w ∈ wsX50, w ∈ lw_tbl := in_k _ [(1, 78), (1, 80), (1, 82), (1, 84), (1, 86), (1, 88), (1, 90), (1, 92), (1, 94), (1, 96), (1, 98), (1, 100), (1, 102), (1, 104), (1, 106)] rfl
set_option maxRecDepth 100000 in
theorem itX6 : ∀ w ∈ wsX60, w ∈ lw_tbl := in_k _ [(1, 199), (1, 201), (1, 203), (1, 205), (1, 207), (1, 209), (1, 211), (1, 213), (1, 215)] rfl
set_option maxRecDepth 100000 in
theorem itX7 : ∀ w ∈ wsX70, w ∈ lw_tbl := in_k _ [(1, 150), (1, 152), (1, 154), (1, 156), (1, 158), (1, 160), (1, 162), (1, 164), (1, 166), (1, 168), (1, 170), (1, 172), (1, 174), (1, 176), (1, 178), (1, 180)] rfl
set_option maxRecDepth 100000 in
theorem itX8 : ∀ w ∈ wsX80, w ∈ lw_tbl := in_k _ [(3, 96), (3, 98), (3, 100), (3, 102), (3, 104), (3, 106), (3, 108), (3, 110), (3, 112), (3, 114), (3, 116), (3, 118), (3, 120), (3, 122), (3, 124), (3, 126), (3, 128), (3, 130), (3, 132)] rfl
set_option maxRecDepth 100000 in
theorem itX9 : ∀ w ∈ wsX90, w ∈ lw_tbl := in_k _ [(2, 94), (2, 96), (2, 98), (2, 100), (2, 102), (2, 104), (2, 106), (2, 108), (2, 110), (2, 112), (2, 114), (2, 116), (2, 118)] rfl
set_option maxRecDepth 100000 in
theorem itX10 : ∀ w ∈ wsX100, w ∈ lw_tbl := in_k _ [(2, 173), (2, 175), (2, 177), (2, 179), (2, 181)] rfl
set_option maxRecDepth 100000 in
theorem itX11 : ∀ w ∈ wsX110, w ∈ lw_tbl := in_k _ [(4, 53), (4, 55), (4, 57), (4, 59), (4, 61), (4, 63), (4, 65), (4, 67), (4, 69), (4, 71), (4, 73), (4, 75), (4, 77)] rfl
set_option maxRecDepth 100000 in
theorem itX12 : ∀ w ∈ wsX120, w ∈ lw_tbl := in_k _ [(8, 137), (8, 139), (8, 141), (8, 143)] rfl
set_option maxRecDepth 100000 in
theorem itX13 : ∀ w ∈ wsX130, w ∈ lw_tbl := in_k _ [(8, 56), (8, 58), (8, 60), (8, 62), (8, 64), (8, 66), (8, 68), (8, 70), (8, 72), (8, 74), (8, 76), (8, 78), (8, 80), (8, 82), (8, 84), (8, 86), (8, 88), (8, 90), (8, 92), (8, 94), (8, 96), (8, 98)] rfl
set_option maxRecDepth 100000 in
theorem itX14 : ∀ w ∈ wsX140, w ∈ lw_tbl := in_k _ [(8, 163), (8, 165), (8, 167), (8, 169), (8, 171), (8, 173), (8, 175), (8, 177), (8, 179), (8, 181), (8, 183)] rfl
set_option maxRecDepth 100000 in
theorem itX15 : ∀ w ∈ wsX150, w ∈ lw_tbl := in_k _ [(8, 13), (8, 15), (8, 17), (8, 19), (8, 21), (8, 23)] rfl
set_option maxRecDepth 100000 in
theorem itX16 : ∀ w ∈ wsX160, w ∈ lw_tbl := in_k _ [(8, 215), (8, 217), (8, 219), (8, 221), (8, 223), (8, 225), (8, 227), (8, 229), (8, 231), (8, 233), (8, 235), (8, 237), (8, 239), (9, 1), (9, 3), (9, 5), (9, 7), (9, 9)] rfl
set_option maxRecDepth 100000 in
theorem itX17 : ∀ w ∈ wsX170, w ∈ lw_tbl := in_k _ [(8, 114), (8, 116), (8, 118), (8, 120), (8, 122)] rfl
set_option maxRecDepth 100000 in
theorem itX18 : ∀ w ∈ wsX180, w ∈ lw_tbl := in_k _ [(9, 89), (9, 91), (9, 93), (9, 95), (9, 97), (9, 99), (9, 101), (9, 103), (9, 105), (9, 107), (9, 109), (9, 111), (9, 113), (9, 115), (9, 117), (9, 119), (9, 121), (9, 123), (9, 125), (9, 127), (9, 129), (9, 131), (9, 133), (9, 135), (9, 137), (9, 139), (9, 141), (9, 143), (9, 145), (9, 147), (9, 149), (9, 151), (9, 153), (9, 155), (9, 157), (9, 159), (9, 161), (9, 163), (9, 165), (9, 167), (9, 169), (9, 171), (9, 173), (9, 175), (9, 177), (9, 179), (9, 181), (9, 183), (9, 185), (9, 187), (9, 189), (9, 191), (9, 193), (9, 195), (9, 197), (9, 199), (9, 201), (9, 203), (9, 205), (9, 207), (9, 209), (9, 211), (9, 213), (9, 215), (9, 217), (9, 219), (9, 221), (9, 223), (9, 225), (9, 227), (9, 229), (9, 231), (9, 233), (9, 235), (9, 237), (9, 239), (10, 1), (10, 3)] rfl
