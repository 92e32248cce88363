/-! THE REFERENCE'S MACHINE: which operation is which -/
section
variable {F n : Nat} {sh : Nat → Nat × Nat} {x y : Int64} {z : St}
theorem cal_id (o : Option (St × Unit)) : cal o (fun z _ => some (z, ())) = o := by
  cases o with
  | none => rfl
  | some w => rfl
theorem oneD_1 : oneD F sh n (nI 1) x y z = fn_X18_giveBack F sh n z 337 := by
  unfold oneD
  try unfold fn_X18_one_B305
  try unfold fn_X18_one_B379
  try unfold fn_X18_one_B402
  try unfold fn_X18_one_B443
  repeat (first | rw [if_pos (by decide)] | rw [if_neg (by decide)])
  exact cal_id _
theorem oneD_2 : oneD F sh n (nI 2) x y z = fn_X18_branch F sh n z 337 (nI 2) x.toInt32 := by
  unfold oneD
  try unfold fn_X18_one_B305
  try unfold fn_X18_one_B379
  try unfold fn_X18_one_B402
  try unfold fn_X18_one_B443
  repeat (first | rw [if_pos (by decide)] | rw [if_neg (by decide)])
  exact cal_id _
theorem oneD_3 : oneD F sh n (nI 3) x y z = fn_X18_branch F sh n z 337 (nI 3) x.toInt32 := by
  unfold oneD
  try unfold fn_X18_one_B305
  try unfold fn_X18_one_B379
  try unfold fn_X18_one_B402
  try unfold fn_X18_one_B443
  repeat (first | rw [if_pos (by decide)] | rw [if_neg (by decide)])
  exact cal_id _
theorem oneD_4 : oneD F sh n (nI 4) x y z = fn_X18_branch F sh n z 337 (nI 4) x.toInt32 := by
  unfold oneD
  try unfold fn_X18_one_B305
  try unfold fn_X18_one_B379
  try unfold fn_X18_one_B402
  try unfold fn_X18_one_B443
  repeat (first | rw [if_pos (by decide)] | rw [if_neg (by decide)])
  exact cal_id _
theorem oneD_5 : oneD F sh n (nI 5) x y z = fn_X18_constant F sh n z 337 (nI 5) x y := by
  unfold oneD
  try unfold fn_X18_one_B305
  try unfold fn_X18_one_B379
  try unfold fn_X18_one_B402
  try unfold fn_X18_one_B443
  repeat (first | rw [if_pos (by decide)] | rw [if_neg (by decide)])
  exact cal_id _
theorem oneD_6 : oneD F sh n (nI 6) x y z = fn_X18_constant F sh n z 337 (nI 6) x y := by
  unfold oneD
  try unfold fn_X18_one_B305
  try unfold fn_X18_one_B379
  try unfold fn_X18_one_B402
  try unfold fn_X18_one_B443
  repeat (first | rw [if_pos (by decide)] | rw [if_neg (by decide)])
  exact cal_id _
theorem oneD_7 : oneD F sh n (nI 7) x y z = fn_X18_constant F sh n z 337 (nI 7) x y := by
  unfold oneD
  try unfold fn_X18_one_B305
  try unfold fn_X18_one_B379
  try unfold fn_X18_one_B402
  try unfold fn_X18_one_B443
  repeat (first | rw [if_pos (by decide)] | rw [if_neg (by decide)])
  exact cal_id _
theorem oneD_8 : oneD F sh n (nI 8) x y z = fn_X18_constant F sh n z 337 (nI 8) x y := by
  unfold oneD
  try unfold fn_X18_one_B305
  try unfold fn_X18_one_B379
  try unfold fn_X18_one_B402
  try unfold fn_X18_one_B443
  repeat (first | rw [if_pos (by decide)] | rw [if_neg (by decide)])
  exact cal_id _
theorem oneD_9 : oneD F sh n (nI 9) x y z = fn_X18_constant F sh n z 337 (nI 9) x y := by
  unfold oneD
  try unfold fn_X18_one_B305
  try unfold fn_X18_one_B379
  try unfold fn_X18_one_B402
  try unfold fn_X18_one_B443
  repeat (first | rw [if_pos (by decide)] | rw [if_neg (by decide)])
  exact cal_id _
theorem oneD_10 : oneD F sh n (nI 10) x y z = fn_X18_constant F sh n z 337 (nI 10) x y := by
  unfold oneD
  try unfold fn_X18_one_B305
  try unfold fn_X18_one_B379
  try unfold fn_X18_one_B402
  try unfold fn_X18_one_B443
  repeat (first | rw [if_pos (by decide)] | rw [if_neg (by decide)])
  exact cal_id _
theorem oneD_11 : oneD F sh n (nI 11) x y z = fn_X18_onLocal F sh n z 337 (nI 11) x.toInt32 := by
  unfold oneD
  try unfold fn_X18_one_B305
  try unfold fn_X18_one_B379
  try unfold fn_X18_one_B402
  try unfold fn_X18_one_B443
  repeat (first | rw [if_pos (by decide)] | rw [if_neg (by decide)])
  exact cal_id _
theorem oneD_12 : oneD F sh n (nI 12) x y z = fn_X18_onLocal F sh n z 337 (nI 12) x.toInt32 := by
  unfold oneD
  try unfold fn_X18_one_B305
  try unfold fn_X18_one_B379
  try unfold fn_X18_one_B402
  try unfold fn_X18_one_B443
  repeat (first | rw [if_pos (by decide)] | rw [if_neg (by decide)])
  exact cal_id _
theorem oneD_13 : oneD F sh n (nI 13) x y z = fn_X18_onLocal F sh n z 337 (nI 13) x.toInt32 := by
  unfold oneD
  try unfold fn_X18_one_B305
  try unfold fn_X18_one_B379
  try unfold fn_X18_one_B402
  try unfold fn_X18_one_B443
  repeat (first | rw [if_pos (by decide)] | rw [if_neg (by decide)])
  exact cal_id _
theorem oneD_14 : oneD F sh n (nI 14) x y z = fn_X18_onLocal F sh n z 337 (nI 14) x.toInt32 := by
  unfold oneD
  try unfold fn_X18_one_B305
  try unfold fn_X18_one_B379
  try unfold fn_X18_one_B402
  try unfold fn_X18_one_B443
  repeat (first | rw [if_pos (by decide)] | rw [if_neg (by decide)])
  exact cal_id _
theorem oneD_15 : oneD F sh n (nI 15) x y z = fn_X18_onLocal F sh n z 337 (nI 15) x.toInt32 := by
  unfold oneD
  try unfold fn_X18_one_B305
  try unfold fn_X18_one_B379
  try unfold fn_X18_one_B402
  try unfold fn_X18_one_B443
  repeat (first | rw [if_pos (by decide)] | rw [if_neg (by decide)])
  exact cal_id _
theorem oneD_16 : oneD F sh n (nI 16) x y z = fn_X18_onReference F sh n z 337 (nI 16) y.toInt32 := by
  unfold oneD
  try unfold fn_X18_one_B305
  try unfold fn_X18_one_B379
  try unfold fn_X18_one_B402
  try unfold fn_X18_one_B443
  repeat (first | rw [if_pos (by decide)] | rw [if_neg (by decide)])
  exact cal_id _
theorem oneD_17 : oneD F sh n (nI 17) x y z = fn_X18_onReference F sh n z 337 (nI 17) y.toInt32 := by
  unfold oneD
  try unfold fn_X18_one_B305
  try unfold fn_X18_one_B379
  try unfold fn_X18_one_B402
  try unfold fn_X18_one_B443
  repeat (first | rw [if_pos (by decide)] | rw [if_neg (by decide)])
  exact cal_id _
theorem oneD_18 : oneD F sh n (nI 18) x y z = fn_X18_onReference F sh n z 337 (nI 18) y.toInt32 := by
  unfold oneD
  try unfold fn_X18_one_B305
  try unfold fn_X18_one_B379
  try unfold fn_X18_one_B402
  try unfold fn_X18_one_B443
  repeat (first | rw [if_pos (by decide)] | rw [if_neg (by decide)])
  exact cal_id _
theorem oneD_19 : oneD F sh n (nI 19) x y z = fn_X18_onReference F sh n z 337 (nI 19) y.toInt32 := by
  unfold oneD
  try unfold fn_X18_one_B305
  try unfold fn_X18_one_B379
  try unfold fn_X18_one_B402
  try unfold fn_X18_one_B443
  repeat (first | rw [if_pos (by decide)] | rw [if_neg (by decide)])
  exact cal_id _
theorem oneD_20 : oneD F sh n (nI 20) x y z = fn_X18_onReference F sh n z 337 (nI 20) y.toInt32 := by
  unfold oneD
  try unfold fn_X18_one_B305
  try unfold fn_X18_one_B379
  try unfold fn_X18_one_B402
  try unfold fn_X18_one_B443
  repeat (first | rw [if_pos (by decide)] | rw [if_neg (by decide)])
  exact cal_id _
theorem oneD_21 : oneD F sh n (nI 21) x y z = fn_X18_pack F sh n z 337 x.toInt32 := by
  unfold oneD
  try unfold fn_X18_one_B305
  try unfold fn_X18_one_B379
  try unfold fn_X18_one_B402
  try unfold fn_X18_one_B443
  repeat (first | rw [if_pos (by decide)] | rw [if_neg (by decide)])
  exact cal_id _
theorem oneD_22 : oneD F sh n (nI 22) x y z = fn_X18_unpack F sh n z 337 x.toInt32 := by
  unfold oneD
  try unfold fn_X18_one_B305
  try unfold fn_X18_one_B379
  try unfold fn_X18_one_B402
  try unfold fn_X18_one_B443
  repeat (first | rw [if_pos (by decide)] | rw [if_neg (by decide)])
  exact cal_id _
theorem oneD_23 : oneD F sh n (nI 23) x y z = fn_X18_enterCall F sh n z 337 x.toInt32 := by
  unfold oneD
  try unfold fn_X18_one_B305
  try unfold fn_X18_one_B379
  try unfold fn_X18_one_B402
  try unfold fn_X18_one_B443
  repeat (first | rw [if_pos (by decide)] | rw [if_neg (by decide)])
  exact cal_id _
theorem oneD_24 : oneD F sh n (nI 24) x y z = fn_X18_reckon F sh n z 337 (nI 24) := by
  unfold oneD
  try unfold fn_X18_one_B305
  try unfold fn_X18_one_B379
  try unfold fn_X18_one_B402
  try unfold fn_X18_one_B443
  repeat (first | rw [if_pos (by decide)] | rw [if_neg (by decide)])
  exact cal_id _
theorem oneD_25 : oneD F sh n (nI 25) x y z = fn_X18_reckon F sh n z 337 (nI 25) := by
  unfold oneD
  try unfold fn_X18_one_B305
  try unfold fn_X18_one_B379
  try unfold fn_X18_one_B402
  try unfold fn_X18_one_B443
  repeat (first | rw [if_pos (by decide)] | rw [if_neg (by decide)])
  exact cal_id _
theorem oneD_26 : oneD F sh n (nI 26) x y z = fn_X18_reckon F sh n z 337 (nI 26) := by
  unfold oneD
  try unfold fn_X18_one_B305
  try unfold fn_X18_one_B379
  try unfold fn_X18_one_B402
  try unfold fn_X18_one_B443
  repeat (first | rw [if_pos (by decide)] | rw [if_neg (by decide)])
  exact cal_id _
theorem oneD_27 : oneD F sh n (nI 27) x y z = fn_X18_reckon F sh n z 337 (nI 27) := by
  unfold oneD
  try unfold fn_X18_one_B305
  try unfold fn_X18_one_B379
  try unfold fn_X18_one_B402
  try unfold fn_X18_one_B443
  repeat (first | rw [if_pos (by decide)] | rw [if_neg (by decide)])
  exact cal_id _
theorem oneD_28 : oneD F sh n (nI 28) x y z = fn_X18_reckon F sh n z 337 (nI 28) := by
  unfold oneD
  try unfold fn_X18_one_B305
  try unfold fn_X18_one_B379
  try unfold fn_X18_one_B402
  try unfold fn_X18_one_B443
  repeat (first | rw [if_pos (by decide)] | rw [if_neg (by decide)])
  exact cal_id _
theorem oneD_29 : oneD F sh n (nI 29) x y z = fn_X18_reckon F sh n z 337 (nI 29) := by
  unfold oneD
  try unfold fn_X18_one_B305
  try unfold fn_X18_one_B379
  try unfold fn_X18_one_B402
  try unfold fn_X18_one_B443
  repeat (first | rw [if_pos (by decide)] | rw [if_neg (by decide)])
  exact cal_id _
theorem oneD_30 : oneD F sh n (nI 30) x y z = fn_X18_reckon F sh n z 337 (nI 30) := by
  unfold oneD
  try unfold fn_X18_one_B305
  try unfold fn_X18_one_B379
  try unfold fn_X18_one_B402
  try unfold fn_X18_one_B443
  repeat (first | rw [if_pos (by decide)] | rw [if_neg (by decide)])
  exact cal_id _
theorem oneD_31 : oneD F sh n (nI 31) x y z = fn_X18_reckon F sh n z 337 (nI 31) := by
  unfold oneD
  try unfold fn_X18_one_B305
  try unfold fn_X18_one_B379
  try unfold fn_X18_one_B402
  try unfold fn_X18_one_B443
  repeat (first | rw [if_pos (by decide)] | rw [if_neg (by decide)])
  exact cal_id _
theorem oneD_32 : oneD F sh n (nI 32) x y z = fn_X18_shift F sh n z 337 1 := by
  unfold oneD
  try unfold fn_X18_one_B305
  try unfold fn_X18_one_B379
  try unfold fn_X18_one_B402
  try unfold fn_X18_one_B443
  repeat (first | rw [if_pos (by decide)] | rw [if_neg (by decide)])
  exact cal_id _
theorem oneD_33 : oneD F sh n (nI 33) x y z = fn_X18_shift F sh n z 337 0 := by
  unfold oneD
  try unfold fn_X18_one_B305
  try unfold fn_X18_one_B379
  try unfold fn_X18_one_B402
  try unfold fn_X18_one_B443
  repeat (first | rw [if_pos (by decide)] | rw [if_neg (by decide)])
  exact cal_id _
theorem oneD_36 : oneD F sh n (nI 36) x y z = fn_X18_reckon F sh n z 337 (nI 36) := by
  unfold oneD
  try unfold fn_X18_one_B305
  try unfold fn_X18_one_B379
  try unfold fn_X18_one_B402
  try unfold fn_X18_one_B443
  repeat (first | rw [if_pos (by decide)] | rw [if_neg (by decide)])
  exact cal_id _
theorem oneD_37 : oneD F sh n (nI 37) x y z = fn_X18_reckon F sh n z 337 (nI 37) := by
  unfold oneD
  try unfold fn_X18_one_B305
  try unfold fn_X18_one_B379
  try unfold fn_X18_one_B402
  try unfold fn_X18_one_B443
  repeat (first | rw [if_pos (by decide)] | rw [if_neg (by decide)])
  exact cal_id _
theorem oneD_38 : oneD F sh n (nI 38) x y z = fn_X18_reckon F sh n z 337 (nI 38) := by
  unfold oneD
  try unfold fn_X18_one_B305
  try unfold fn_X18_one_B379
  try unfold fn_X18_one_B402
  try unfold fn_X18_one_B443
  repeat (first | rw [if_pos (by decide)] | rw [if_neg (by decide)])
  exact cal_id _
theorem oneD_39 : oneD F sh n (nI 39) x y z = fn_X18_reckon F sh n z 337 (nI 39) := by
  unfold oneD
  try unfold fn_X18_one_B305
  try unfold fn_X18_one_B379
  try unfold fn_X18_one_B402
  try unfold fn_X18_one_B443
  repeat (first | rw [if_pos (by decide)] | rw [if_neg (by decide)])
  exact cal_id _
theorem oneD_40 : oneD F sh n (nI 40) x y z = fn_X18_reckon F sh n z 337 (nI 40) := by
  unfold oneD
  try unfold fn_X18_one_B305
  try unfold fn_X18_one_B379
  try unfold fn_X18_one_B402
  try unfold fn_X18_one_B443
  repeat (first | rw [if_pos (by decide)] | rw [if_neg (by decide)])
  exact cal_id _
theorem oneD_41 : oneD F sh n (nI 41) x y z = fn_X18_reckon F sh n z 337 (nI 41) := by
  unfold oneD
  try unfold fn_X18_one_B305
  try unfold fn_X18_one_B379
  try unfold fn_X18_one_B402
  try unfold fn_X18_one_B443
  repeat (first | rw [if_pos (by decide)] | rw [if_neg (by decide)])
  exact cal_id _
theorem oneD_42 : oneD F sh n (nI 42) x y z = fn_X18_convert F sh n z 337 (nI 42 - 40) := by
  unfold oneD
  try unfold fn_X18_one_B305
  try unfold fn_X18_one_B379
  try unfold fn_X18_one_B402
  try unfold fn_X18_one_B443
  repeat (first | rw [if_pos (by decide)] | rw [if_neg (by decide)])
  exact cal_id _
theorem oneD_43 : oneD F sh n (nI 43) x y z = fn_X18_convert F sh n z 337 (nI 43 - 40) := by
  unfold oneD
  try unfold fn_X18_one_B305
  try unfold fn_X18_one_B379
  try unfold fn_X18_one_B402
  try unfold fn_X18_one_B443
  repeat (first | rw [if_pos (by decide)] | rw [if_neg (by decide)])
  exact cal_id _
theorem oneD_44 : oneD F sh n (nI 44) x y z = fn_X18_convert F sh n z 337 (nI 44 - 40) := by
  unfold oneD
  try unfold fn_X18_one_B305
  try unfold fn_X18_one_B379
  try unfold fn_X18_one_B402
  try unfold fn_X18_one_B443
  repeat (first | rw [if_pos (by decide)] | rw [if_neg (by decide)])
  exact cal_id _
theorem oneD_46 : oneD F sh n (nI 46) x y z = fn_X18_constant F sh n z 337 (nI 46) x y := by
  unfold oneD
  try unfold fn_X18_one_B305
  try unfold fn_X18_one_B379
  try unfold fn_X18_one_B402
  try unfold fn_X18_one_B443
  repeat (first | rw [if_pos (by decide)] | rw [if_neg (by decide)])
  exact cal_id _
theorem oneD_47 : oneD F sh n (nI 47) x y z = fn_X18_onResource F sh n z 337 (nI 47) x.toInt32 := by
  unfold oneD
  try unfold fn_X18_one_B305
  try unfold fn_X18_one_B379
  try unfold fn_X18_one_B402
  try unfold fn_X18_one_B443
  repeat (first | rw [if_pos (by decide)] | rw [if_neg (by decide)])
  exact cal_id _
theorem oneD_48 : oneD F sh n (nI 48) x y z = fn_X18_onResource F sh n z 337 (nI 48) x.toInt32 := by
  unfold oneD
  try unfold fn_X18_one_B305
  try unfold fn_X18_one_B379
  try unfold fn_X18_one_B402
  try unfold fn_X18_one_B443
  repeat (first | rw [if_pos (by decide)] | rw [if_neg (by decide)])
  exact cal_id _
theorem oneD_49 : oneD F sh n (nI 49) x y z = fn_X18_onResource F sh n z 337 (nI 49) x.toInt32 := by
  unfold oneD
  try unfold fn_X18_one_B305
  try unfold fn_X18_one_B379
  try unfold fn_X18_one_B402
  try unfold fn_X18_one_B443
  repeat (first | rw [if_pos (by decide)] | rw [if_neg (by decide)])
  exact cal_id _
theorem oneD_50 : oneD F sh n (nI 50) x y z = fn_X18_onResource F sh n z 337 (nI 50) x.toInt32 := by
  unfold oneD
  try unfold fn_X18_one_B305
  try unfold fn_X18_one_B379
  try unfold fn_X18_one_B402
  try unfold fn_X18_one_B443
  repeat (first | rw [if_pos (by decide)] | rw [if_neg (by decide)])
  exact cal_id _
theorem oneD_51 : oneD F sh n (nI 51) x y z = fn_X18_onResource F sh n z 337 (nI 51) x.toInt32 := by
  unfold oneD
  try unfold fn_X18_one_B305
  try unfold fn_X18_one_B379
  try unfold fn_X18_one_B402
  try unfold fn_X18_one_B443
  repeat (first | rw [if_pos (by decide)] | rw [if_neg (by decide)])
  exact cal_id _
theorem oneD_52 : oneD F sh n (nI 52) x y z = fn_X18_onVector F sh n z 337 (nI 52) y.toInt32 := by
  unfold oneD
  try unfold fn_X18_one_B305
  try unfold fn_X18_one_B379
  try unfold fn_X18_one_B402
  try unfold fn_X18_one_B443
  repeat (first | rw [if_pos (by decide)] | rw [if_neg (by decide)])
  exact cal_id _
theorem oneD_53 : oneD F sh n (nI 53) x y z = fn_X18_onVector F sh n z 337 (nI 53) y.toInt32 := by
  unfold oneD
  try unfold fn_X18_one_B305
  try unfold fn_X18_one_B379
  try unfold fn_X18_one_B402
  try unfold fn_X18_one_B443
  repeat (first | rw [if_pos (by decide)] | rw [if_neg (by decide)])
  exact cal_id _
theorem oneD_54 : oneD F sh n (nI 54) x y z = fn_X18_onVector F sh n z 337 (nI 54) y.toInt32 := by
  unfold oneD
  try unfold fn_X18_one_B305
  try unfold fn_X18_one_B379
  try unfold fn_X18_one_B402
  try unfold fn_X18_one_B443
  repeat (first | rw [if_pos (by decide)] | rw [if_neg (by decide)])
  exact cal_id _
theorem oneD_55 : oneD F sh n (nI 55) x y z = fn_X18_onVector F sh n z 337 (nI 55) y.toInt32 := by
  unfold oneD
  try unfold fn_X18_one_B305
  try unfold fn_X18_one_B379
  try unfold fn_X18_one_B402
  try unfold fn_X18_one_B443
  repeat (first | rw [if_pos (by decide)] | rw [if_neg (by decide)])
  exact cal_id _
theorem oneD_56 : oneD F sh n (nI 56) x y z = fn_X18_onVector F sh n z 337 (nI 56) y.toInt32 := by
  unfold oneD
  try unfold fn_X18_one_B305
  try unfold fn_X18_one_B379
  try unfold fn_X18_one_B402
  try unfold fn_X18_one_B443
  repeat (first | rw [if_pos (by decide)] | rw [if_neg (by decide)])
  exact cal_id _
theorem oneD_57 : oneD F sh n (nI 57) x y z = fn_X18_onVector F sh n z 337 (nI 57) y.toInt32 := by
  unfold oneD
  try unfold fn_X18_one_B305
  try unfold fn_X18_one_B379
  try unfold fn_X18_one_B402
  try unfold fn_X18_one_B443
  repeat (first | rw [if_pos (by decide)] | rw [if_neg (by decide)])
  exact cal_id _
theorem oneD_58 : oneD F sh n (nI 58) x y z = fn_X18_onVector F sh n z 337 (nI 58) y.toInt32 := by
  unfold oneD
  try unfold fn_X18_one_B305
  try unfold fn_X18_one_B379
  try unfold fn_X18_one_B402
  try unfold fn_X18_one_B443
  repeat (first | rw [if_pos (by decide)] | rw [if_neg (by decide)])
  exact cal_id _
theorem oneD_59 : oneD F sh n (nI 59) x y z = fn_X18_onVector F sh n z 337 (nI 59) y.toInt32 := by
  unfold oneD
  try unfold fn_X18_one_B305
  try unfold fn_X18_one_B379
  try unfold fn_X18_one_B402
  try unfold fn_X18_one_B443
  repeat (first | rw [if_pos (by decide)] | rw [if_neg (by decide)])
  exact cal_id _
theorem oneD_45 : oneD F sh n (nI 45) x y z = fn_X18_one_B402 F sh n 45 337 y x z := by
  unfold oneD
  unfold fn_X18_one_B379
  repeat (first | rw [if_pos (by decide)] | rw [if_neg (by decide)])
  rfl
end
