/-! WHAT EACH METHOD LEAVES ALONE -/
section
variable {F n : Nat} {sh : Nat → Nat × Nat}
theorem kC_type (y0 : Int64) (y1 : Int32) : KeC n (fun z => fn_X11_type F sh n z 0 y0 y1) := fun z hn h g => ⟨lkp_fn_X11_type (lk_kp n) h (.inl hn), lkp_fn_X11_type (rg_kp inC z) (rg_0 g) (.inl (by decide))⟩
theorem kM_type (y0 : Int64) (y1 : Int32) : KeM n (fun z => fn_X18_type F sh n z 337 y0 y1) := fun z hn h g => ⟨lkp_fn_X18_type (lk_kp n) h (.inl hn), lkp_fn_X18_type (rg_kp inR z) (rg_0 g) ⟨by decide, by decide⟩⟩
theorem kC_mint (y0 : Int64) (y1 : Int64) : KeC n (fun z => fn_X11_mint F sh n z 0 y0 y1) := fun z hn h g => ⟨lkp_fn_X11_mint (lk_kp n) h (.inl hn), lkp_fn_X11_mint (rg_kp inC z) (rg_0 g) (.inl (by decide))⟩
theorem kM_mint (y0 : Int64) (y1 : Int64) : KeM n (fun z => fn_X18_mint F sh n z 337 y0 y1) := fun z hn h g => ⟨lkp_fn_X18_mint (lk_kp n) h (.inl hn), lkp_fn_X18_mint (rg_kp inR z) (rg_0 g) ⟨by decide, by decide⟩⟩
theorem kC_begin  : KeC n (fun z => fn_X11_begin F sh n z 0 ) := fun z hn h g => ⟨lkp_fn_X11_begin (lk_kp n) h (.inl hn), lkp_fn_X11_begin (rg_kp inC z) (rg_0 g) (.inl (by decide))⟩
theorem kM_begin  : KeM n (fun z => fn_X18_begin F sh n z 337 ) := fun z hn h g => ⟨lkp_fn_X18_begin (lk_kp n) h (.inl hn), lkp_fn_X18_begin (rg_kp inR z) (rg_0 g) ⟨by decide, by decide⟩⟩
theorem kC_call (y0 : Int64) (y1 : Int64) (y2 : Int32) (y3 : Int32) (y4 : Int32) : KeC n (fun z => fn_X11_call F sh n z 0 y0 y1 y2 y3 y4) := fun z hn h g => ⟨lkp_fn_X11_call (lk_kp n) h (.inl hn), lkp_fn_X11_call (rg_kp inC z) (rg_0 g) (.inl (by decide))⟩
theorem kM_call (y0 : Int64) (y1 : Int64) (y2 : Int32) (y3 : Int32) (y4 : Int32) : KeM n (fun z => fn_X18_call F sh n z 337 y0 y1 y2 y3 y4) := fun z hn h g => ⟨lkp_fn_X18_call (lk_kp n) h (.inl hn), lkp_fn_X18_call (rg_kp inR z) (rg_0 g) ⟨by decide, by decide⟩⟩
theorem kC_argument (y0 : Int32) (y1 : Int64) (y2 : Int64) : KeC n (fun z => fn_X11_argument F sh n z 0 y0 y1 y2) := fun z hn h g => ⟨lkp_fn_X11_argument (lk_kp n) h (.inl hn), lkp_fn_X11_argument (rg_kp inC z) (rg_0 g) (.inl (by decide))⟩
theorem kM_argument (y0 : Int32) (y1 : Int64) (y2 : Int64) : KeM n (fun z => fn_X18_argument F sh n z 337 y0 y1 y2) := fun z hn h g => ⟨lkp_fn_X18_argument (lk_kp n) h (.inl hn), lkp_fn_X18_argument (rg_kp inR z) (rg_0 g) ⟨by decide, by decide⟩⟩
theorem kC_weave (y0 : Int64) : KeC n (fun z => fn_X11_weave F sh n z 0 y0) := fun z hn h g => ⟨lkp_fn_X11_weave (lk_kp n) h (.inl hn), lkp_fn_X11_weave (rg_kp inC z) (rg_0 g) (.inl (by decide))⟩
theorem kM_weave (y0 : Int64) : KeM n (fun z => fn_X18_weave F sh n z 337 y0) := fun z hn h g => ⟨lkp_fn_X18_weave (lk_kp n) h (.inl hn), lkp_fn_X18_weave (rg_kp inR z) (rg_0 g) ⟨by decide, by decide⟩⟩
theorem kC_unweave  : KeC n (fun z => fn_X11_unweave F sh n z 0 ) := fun z hn h g => ⟨lkp_fn_X11_unweave (lk_kp n) h (.inl hn), lkp_fn_X11_unweave (rg_kp inC z) (rg_0 g) (.inl (by decide))⟩
theorem kM_unweave  : KeM n (fun z => fn_X18_unweave F sh n z 337 ) := fun z hn h g => ⟨lkp_fn_X18_unweave (lk_kp n) h (.inl hn), lkp_fn_X18_unweave (rg_kp inR z) (rg_0 g) ⟨by decide, by decide⟩⟩
theorem kC_execute  : KeC n (fun z => fn_X11_execute F sh n z 0 ) := fun z hn h g => ⟨lkp_fn_X11_execute (lk_kp n) h (.inl hn), lkp_fn_X11_execute (rg_kp inC z) (rg_0 g) (.inl (by decide))⟩
theorem kM_execute  : KeM n (fun z => fn_X18_execute F sh n z 337 ) := fun z hn h g => ⟨lkp_fn_X18_execute (lk_kp n) h (.inl hn), lkp_fn_X18_execute (rg_kp inR z) (rg_0 g) ⟨by decide, by decide⟩⟩
theorem kC_told (y0 : Int32) (y1 : Int32) : KeC n (fun z => fn_X11_told F sh n z 0 y0 y1) := fun z hn h g => ⟨lkp_fn_X11_told (lk_kp n) h (.inl hn), lkp_fn_X11_told (rg_kp inC z) (rg_0 g) (.inl (by decide))⟩
theorem kM_told (y0 : Int32) (y1 : Int32) : KeM n (fun z => fn_X18_told F sh n z 337 y0 y1) := fun z hn h g => ⟨lkp_fn_X18_told (lk_kp n) h (.inl hn), lkp_fn_X18_told (rg_kp inR z) (rg_0 g) ⟨by decide, by decide⟩⟩
theorem kC_code (y0 : Int32) : KeC n (fun z => fn_X11_code F sh n z 0 y0) := fun z hn h g => ⟨lkp_fn_X11_code (lk_kp n) h (.inl hn), lkp_fn_X11_code (rg_kp inC z) (rg_0 g) (.inl (by decide))⟩
theorem kM_code (y0 : Int32) : KeM n (fun z => fn_X18_code F sh n z 337 y0) := fun z hn h g => ⟨lkp_fn_X18_code (lk_kp n) h (.inl hn), lkp_fn_X18_code (rg_kp inR z) (rg_0 g) ⟨by decide, by decide⟩⟩
theorem kC_result (y0 : Int32) (y1 : Int32) (y2 : Int32) : KeC n (fun z => fn_X11_result F sh n z 0 y0 y1 y2) := fun z hn h g => ⟨lkp_fn_X11_result (lk_kp n) h (.inl hn), lkp_fn_X11_result (rg_kp inC z) (rg_0 g) (.inl (by decide))⟩
theorem kM_result (y0 : Int32) (y1 : Int32) (y2 : Int32) : KeM n (fun z => fn_X18_result F sh n z 337 y0 y1 y2) := fun z hn h g => ⟨lkp_fn_X18_result (lk_kp n) h (.inl hn), lkp_fn_X18_result (rg_kp inR z) (rg_0 g) ⟨by decide, by decide⟩⟩
theorem kC_account (y0 : Int64) (y1 : Int32) : KeC n (fun z => fn_X11_account F sh n z 0 y0 y1) := fun z hn h g => ⟨lkp_fn_X11_account (lk_kp n) h (.inl hn), lkp_fn_X11_account (rg_kp inC z) (rg_0 g) (.inl (by decide))⟩
theorem kM_account (y0 : Int64) (y1 : Int32) : KeM n (fun z => fn_X18_account F sh n z 337 y0 y1) := fun z hn h g => ⟨lkp_fn_X18_account (lk_kp n) h (.inl hn), lkp_fn_X18_account (rg_kp inR z) (rg_0 g) ⟨by decide, by decide⟩⟩
theorem kC_coins (y0 : Int32) : KeC n (fun z => fn_X11_coins F sh n z 0 y0) := fun z hn h g => ⟨lkp_fn_X11_coins (lk_kp n) h (.inl hn), lkp_fn_X11_coins (rg_kp inC z) (rg_0 g) (.inl (by decide))⟩
theorem kM_coins (y0 : Int32) : KeM n (fun z => fn_X18_coins F sh n z 337 y0) := fun z hn h g => ⟨lkp_fn_X18_coins (lk_kp n) h (.inl hn), lkp_fn_X18_coins (rg_kp inR z) (rg_0 g) ⟨by decide, by decide⟩⟩
theorem kC_places (y0 : Int32) : KeC n (fun z => fn_X11_places F sh n z 0 y0) := fun z hn h g => ⟨lkp_fn_X11_places (lk_kp n) h (.inl hn), lkp_fn_X11_places (rg_kp inC z) (rg_0 g) (.inl (by decide))⟩
theorem kM_places (y0 : Int32) : KeM n (fun z => fn_X18_places F sh n z 337 y0) := fun z hn h g => ⟨lkp_fn_X18_places (lk_kp n) h (.inl hn), lkp_fn_X18_places (rg_kp inR z) (rg_0 g) ⟨by decide, by decide⟩⟩
theorem kC_resource (y0 : Int64) (y1 : Int32) (y2 : Int32) : KeC n (fun z => fn_X11_resource F sh n z 0 y0 y1 y2) := fun z hn h g => ⟨lkp_fn_X11_resource (lk_kp n) h (.inl hn), lkp_fn_X11_resource (rg_kp inC z) (rg_0 g) (.inl (by decide))⟩
theorem kM_resource (y0 : Int64) (y1 : Int32) (y2 : Int32) : KeM n (fun z => fn_X18_resource F sh n z 337 y0 y1 y2) := fun z hn h g => ⟨lkp_fn_X18_resource (lk_kp n) h (.inl hn), lkp_fn_X18_resource (rg_kp inR z) (rg_0 g) ⟨by decide, by decide⟩⟩
theorem kC_byteOf (y0 : Int32) : KeC n (fun z => fn_X11_byteOf F sh n z 0 y0) := fun z hn h g => ⟨lkp_fn_X11_byteOf (lk_kp n) h (.inl hn), lkp_fn_X11_byteOf (rg_kp inC z) (rg_0 g) (.inl (by decide))⟩
theorem kM_byteOf (y0 : Int32) : KeM n (fun z => fn_X18_byteOf F sh n z 337 y0) := fun z hn h g => ⟨lkp_fn_X18_byteOf (lk_kp n) h (.inl hn), lkp_fn_X18_byteOf (rg_kp inR z) (rg_0 g) ⟨by decide, by decide⟩⟩
theorem kC_root (y0 : Int32) : KeC n (fun z => fn_X11_root F sh n z 0 y0) := fun z hn h g => ⟨lkp_fn_X11_root (lk_kp n) h (.inl hn), lkp_fn_X11_root (rg_kp inC z) (rg_0 g) (.inl (by decide))⟩
theorem kM_root (y0 : Int32) : KeM n (fun z => fn_X18_root F sh n z 337 y0) := fun z hn h g => ⟨lkp_fn_X18_root (lk_kp n) h (.inl hn), lkp_fn_X18_root (rg_kp inR z) (rg_0 g) ⟨by decide, by decide⟩⟩
theorem kC_slips  : KeC n (fun z => fn_X11_slips F sh n z 0 ) := fun z hn h g => ⟨lkp_fn_X11_slips (lk_kp n) h (.inl hn), lkp_fn_X11_slips (rg_kp inC z) (rg_0 g) (.inl (by decide))⟩
theorem kM_slips  : KeM n (fun z => fn_X18_slips F sh n z 337 ) := fun z hn h g => ⟨lkp_fn_X18_slips (lk_kp n) h (.inl hn), lkp_fn_X18_slips (rg_kp inR z) (rg_0 g) ⟨by decide, by decide⟩⟩
theorem kM_publish (y0 : Int64) (y1 : Int64) (y2 : Int32) : KeM n (fun z => fn_X18_publish F sh n z 337 y0 y1 y2) := fun z hn h g => ⟨lkp_fn_X18_publish (lk_kp n) h (.inl hn), lkp_fn_X18_publish (rg_kp inR z) (rg_0 g) ⟨by decide, by decide⟩⟩
end
