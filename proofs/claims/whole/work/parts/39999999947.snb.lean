/-! BOTH MACHINES SIDE BY SIDE: one step -/
theorem lN_tI {k : Nat} (h : k < 2 ^ 31) : (lN k).toInt.toNat = k := by
  show (Int64.ofNat k).toInt.toNat = k
  rw [Int64.toInt_ofNat_of_lt (by omega)]
  rfl
theorem lN_i32 {k : Nat} : (lN k).toInt32 = nI k := Int64.toInt32_ofNat
section
variable {E : Ev} {ub : Nat × Nat} {F n : Nat} {sh : Nat → Nat × Nat} {pk kr : Nat → Nat} {kt : Nat} {sl0 : Int32} {lim : Nat} {zr zc z0 y0 : St} {H : Hp} {m : Nat} {ty : Nat → Nat} {fr : Nat → Fm} {nf na : Nat} {ak : Nat → Ask} {g : Nat} {Hc : Hp} {mc : Nat} {phi : Nat → Nat} {Rn : Nat → Option Nat} {cs cl : Nat → Nat → Nat} {cn : Nat → Nat} {ws : Nat → Int64 → Nat → Bool} {Ms : Nat → Option Md} {Ce : Nat → Nat → Nat → Lks}
variable {SF : Nat → List Nat} {sd : Int64} {nc nr nrc : Nat} {ac acC : Nat → Int64 × Int64 × Int64} {rs : Nat → Int64 × Nat × Hp × Nat} {so : Nat → Option Rsc}
/-- one step on both sides -/
theorem step_sim (hF : 300 ≤ F) (W : ∀ z, Lay sh n z → WM sh n z.2.2 368 369 370 371) (hE : EvOk E) (hA : EvA E) (hC : E.2.1 256 ≤ 38 ∧ E.2.1 11 ≤ 38) (wd : Wld E Ms Ce) (lw : LgW pk Ms) (dy : Dy F sh n z0 y0 kr pk Ms) (b0 : FrB z0 zr) (b1 : FrX y0 zc) (rl : RLg z0 nc ac nr rs) (cg : CLg y0 nc acC nrc so) (lg : LgR E SF sd nc ac acC nr rs so ws) (hsd : z0.2.1 337 24 = y0.2.1 kt 1) (h : Sm E sh n pk kt sl0 lim 0 zr zc H m ty fr nf na ak g Hc mc phi Rn cs cl cn ws) (fi : Fi ub Ms Ce fr nf na ak) (h0 : 0 < na ∧ (ak 0).1 = 1 ∧ (ak 0).2.1 = sd) : StepR ub E sh n pk kt sl0 lim Ms Ce zr zc na ak g ws (fn_X18_one F sh n zr 337) (fn_X4_step F sh n zc 87) := by
  have n0 := h.nf0
  have fi' := fi
  obtain ⟨⟨U, eU, hf, hi, fm⟩, _, ask, _⟩ := fi'
  have am := ask (nf - 1) (by omega) U eU
  obtain ⟨d1, d2, pl, ab, d3⟩ := dy _ U eU
  obtain ⟨v1, v2, ⟨v3, v3b, v3c, v3d⟩, v4, v5, v6, v7⟩ := wd _ U eU
  obtain ⟨cert, n63, l40, l16, lST, inok⟩ := v6 _ hf
  have hc := List.getElem?_eq_getElem hi
  rcases hq : (codeOf U (fr (nf - 1)).1.2.1)[(fr (nf - 1)).1.2.2] with ⟨o, x, y⟩
  rw [hq] at hc
  have iok := inok _ _ _ _ hc
  obtain ⟨L', hop, hn, hbr⟩ := cert.2.2.2 _ _ _ _ hc
  have RZ : ∀ z', FrR (sq zr 337 48 (some (kr (fr (nf - 1)).1.1))) z' → RUn F sh n z' (kr (fr (nf - 1)).1.1) U := fun z' f => (d2 z' (b0.trans (FrB.lk.trans f.b))).1
  have RF := h.2.1.fetch (F := F) (ku := kr (fr (nf - 1)).1.1) (is := (codeOf U (fr (nf - 1)).1.2.1).length) (op := o) (x := x) (y := y) ((b0.1 341 _ (.inl (by decide))).trans d1) v1 (RZ _ FrR.rfl').1 (fun z' f => ⟨((RZ z' f).2.2.1 _ hf).1, (((RZ z' f).2.2.1 _ hf).2 _ _ _ _ hc)⟩) hi (by omega)
  obtain ⟨CU, cfp⟩ := d3 zc b1
  obtain ⟨cpl, cin⟩ := (CU.2.2.1 _ hf).2 _ _ _ _ hc
  have CF := h.2.2.1.step (F := F) (is := (codeOf U (fr (nf - 1)).1.2.1).length) (w := pl (fr (nf - 1)).1.2.1 (fr (nf - 1)).1.2.2) (op := o) (a := ab (fr (nf - 1)).1.2.1 (fr (nf - 1)).1.2.2) CU.1 (CU.2.2.1 _ hf).1 cpl cin.1 cin.2.1.1 hi (by omega)
  by_cases c : g + 1 ≤ lim
  · obtain ⟨zr1, e1, R1, f1⟩ := RF.2 c
    obtain ⟨zc1, e2, C1, f2⟩ := CF.2 c
    rw [e1, e2]
    have S1 := h.next (i := (fr (nf - 1)).1.2.2 + 1) R1 C1 f2
    have fb : FrB zr zr1 := FrB.lk.trans f1.b
    have bz : FrB z0 zr1 := b0.trans fb
    have bx : FrX y0 zc1 := b1.trans f2.x
    have lk : zr1.2.2 337 48 = some (kr (fr (nf - 1)).1.1) := by rw [f1.1]; simp [sq]
    obtain ⟨RU, rfm⟩ := d2 zr1 bz
    obtain ⟨CU1, cfp1⟩ := d3 zc1 bx
    obtain ⟨cpl1, i1, ⟨i2, i3, i4⟩, ⟨bb, i5, i6⟩, ⟨rr, i7, i8⟩, i9, i10⟩ := (CU1.2.2.1 _ hf).2 _ _ _ _ hc
    have rl1 := rl.keepB bz
    have cg1 := cg.of (z' := zc1) (fun k k1 k2 => bx.2.1 k (by omega))
    have kt1 := h.2.2.1.2.2.2.2.1.2.2.1
    have sd1 : zr1.2.1 337 24 = zc1.2.1 kt 1 := by
      rw [(bz.2.2 24 (by unfold mfl; omega)).2, hsd, (bx.2.1 kt (by omega)).2]
    generalize pl (fr (nf - 1)).1.2.1 (fr (nf - 1)).1.2.2 = w at *
    generalize ab (fr (nf - 1)).1.2.1 (fr (nf - 1)).1.2.2 = a0 at *
    have fm1 : FM U (locOf U (fr (nf - 1)).1.2.1) (setF fr (nf - 1) (nxF (fr (nf - 1)) ((fr (nf - 1)).1.2.2 + 1)) (nf - 1)) (Ce (fr (nf - 1)).1.1 (fr (nf - 1)).1.2.1 (fr (nf - 1)).1.2.2) := by rw [setF_s]; exact fm
    have tp : (setF fr (nf - 1) (nxF (fr (nf - 1)) ((fr (nf - 1)).1.2.2 + 1)) (nf - 1)).1 = ((fr (nf - 1)).1.1, (fr (nf - 1)).1.2.1, (fr (nf - 1)).1.2.2 + 1) := by rw [setF_s]; rfl
    have HP : o ≠ 1 → o ≠ 2 → o ≠ 45 → ∀ j, j = (setF fr (nf - 1) (nxF (fr (nf - 1)) ((fr (nf - 1)).1.2.2 + 1)) (nf - 1)).1.2.2 → j < (codeOf U (fr (nf - 1)).1.2.1).length ∧ leD U (locOf U (fr (nf - 1)).1.2.1) L' (Ce (fr (nf - 1)).1.1 (fr (nf - 1)).1.2.1 j) := fun q1 q2 q3 j hj => by
      rw [tp] at hj
      have hj' : j = (fr (nf - 1)).1.2.2 + 1 := hj
      rw [hj']; exact hn q1 q2 q3
    have eX : (o = 5 ∨ (11 ≤ o ∧ o ≤ 17) ∨ (21 ≤ o ∧ o ≤ 23) ∨ (47 ≤ o ∧ o ≤ 58)) → x.toInt.toNat = a0 ∧ x.toInt32 = nI a0 := fun q => by
      rw [i4 q]; exact ⟨lN_tI (by omega), lN_i32⟩
    obtain ⟨k59, k11, k16, k21, k47, k23, k52⟩ := iok
    by_cases o1 : o = 1
    · subst o1
      have hb : aBack U (fr (nf - 1)).1.2.1 (locOf U (fr (nf - 1)).1.2.1) (Ce (fr (nf - 1)).1.1 (fr (nf - 1)).1.2.1 (fr (nf - 1)).1.2.2) = .ok L' := hop
      rw [oneD_1, stepD_st (.inl (by decide)), i7, cal_s]
      have low := fi.low (i := (fr (nf - 1)).1.2.2 + 1)
      have ffa : (fr (nf - 1)).1.2.1 < faOf U := by omega
      have hdp : DpC F sh n zc1 (pk (fr (nf - 1)).1.1) (fr (nf - 1)).1.2.1 (locOf U (fr (nf - 1)).1.2.1).length (nf - 1) := by
        obtain ⟨lc1, lc2⟩ := CU1.2.2.2.2.2.2 _ hf
        refine ⟨lc1, l40, fun k hk nz => ?_⟩
        obtain ⟨t, a, g1, g2, g3⟩ := lc2 k hk
        refine ⟨t, a, g1, g2, g3 ?_⟩
        obtain ⟨_, _, _, _, _, _, _, b8⟩ := S1.2.2.1.2.2.1.2.2.2 (nf - 1) (by omega)
        rw [setF_s] at b8
        cases q : (fr (nf - 1)).2.1 k with
        | none =>
          rcases b8 k (by omega) q with w1 | w1
          · exact absurd w1 nz
          · exact hasD_r ((lw _ U eU _ k hf hk).mp w1)
        | some s =>
          cases qq : (Ce (fr (nf - 1)).1.1 (fr (nf - 1)).1.2.1 (fr (nf - 1)).1.2.2).2.1 k with
          | false => exact ((fm.2.2.2.1 k hk).2 qq s q).2.2
          | true => exact back_d hb k hk qq
      refine step_ret (lc := (locOf U (fr (nf - 1)).1.2.1).length) hF lw S1 low.1 low.2 fi.base (by rw [tp]; exact eU) (by rw [tp]; exact fm1) (by rw [tp]; exact hb) lk RU.1 (by rw [tp]; exact (RU.2.2.2.1 _ ffa).2) (by rw [tp]; exact CU1.1) (by rw [tp]; exact hdp) (by rw [tp]; exact (CU1.2.2.2.1 _ ffa).2) fb f2.x
    · by_cases o23 : o = 23
      · subst o23
        obtain ⟨x1, x2⟩ := eX (.inr (.inr (.inl ⟨by decide, by decide⟩)))
        rw [x1] at hop k23
        have k23' := k23 rfl
        have hcl : aCall U (locOf U (fr (nf - 1)).1.2.1) (fr (nf - 1)).1.2.1 a0 (Ce (fr (nf - 1)).1.1 (fr (nf - 1)).1.2.1 (fr (nf - 1)).1.2.2) = .ok L' := hop
        obtain ⟨y1, y2⟩ := CU1.2.2.2.2.2.1 a0 k23'
        obtain ⟨y3, y4⟩ := v5 a0 k23'
        obtain ⟨n1, n2⟩ := hn (by decide) (by decide) (by decide)
        rw [oneD_23, x2]
        by_cases ca : a0 < fsOf U
        · rw [if_pos ca] at y1 y2
          rw [stepD_23 y1 y2 (by omega), if_neg (by omega)]
          obtain ⟨cert', _⟩ := v6 a0 ca
          have O := sim_own (L0 := Ce (fr (nf - 1)).1.1 a0 0) (U := U) (ku := kr (fr (nf - 1)).1.1) (fs := fsOf U) (md := U.1.1) hF S1 fm1 (by rw [tp]; exact v2) (a := a0) (by rw [tp]; exact hcl) (n63 _) y3 y4 cert'.2.1 cert'.2.2.1 lk RU.1 (RU.2.2.2.1 _ k23').1 RU.2.1 ca (by omega) v3b am (by rw [tp]; exact cfp1) (by rw [tp]; exact CU1.1) (by rw [tp]; exact fun z' f => ((d3 z' (bx.trans f.x)).1.2.2.2.1 _ k23').1)
          rw [tp] at O
          exact step_call fi n0 eU hf eU ca rfl cert'.1 rfl (fun _ _ => ⟨rfl, rfl⟩) O n1 n2 fb f2.x
        · rw [if_neg ca] at y1 y2
          obtain ⟨z1, z2⟩ := RU.2.2.2.2.2 a0 (by omega) k23'
          have wl : whoOf U a0 / 256 < 65536 := by
            rcases v7 a0 (by omega) k23' with ⟨q, _⟩ | ⟨u', U', q1, q2, _⟩
            · omega
            · have := (wd u' U' q1).2.2.1.2.1; omega
          rw [stepD_23 y1 y2 (by omega)]
          rcases v7 a0 (by omega) k23' with ⟨q, q1⟩ | ⟨u', U', q1, q2, q3, q4, q5, q6, q7, q8⟩
          · have hl := (call_ok hcl).1
            have hh := fm1.1
            rw [if_pos q, S1.2.1.call0 (F := F) lk RU.1 (RU.2.2.2.1 _ k23').1 (by omega), (call2 S1.2.1.1 lk RU.1 RU.2.1 (by omega) (by omega) z1 z2 (by omega)).1 q]
            exact step_out lw fi n0 eU hf (dis_coin hF S1 hE hA v2 hC rl1 cg1 lg h0 fm1 hcl q1) (HP (by decide) (by decide) (by decide)) fb f2.x
          · have md0 := (wd u' U' q1).2.2.1.1
            obtain ⟨cert', _⟩ := (wd u' U' q1).2.2.2.2.2.1 _ q3
            obtain ⟨_, dd2, pl', ab', dd3⟩ := dy u' U' q1
            have fu := (wd u' U' q1).2.1
            have vv := (wd u' U' q1).2.2.1.2.2.1
            rw [if_neg (by omega)]
            have O := sim_for (L0 := Ce u' (whoOf U a0 % 256) 0) (U := U) (U' := U') (u' := u') (f' := whoOf U a0 % 256) (ku := kr (fr (nf - 1)).1.1) (fs := fsOf U) (md := whoOf U a0 / 256) hF S1 hE hA rl1 cg1 lg h0 fm1 (by rw [tp]; exact v2) (a := a0) (by rw [tp]; exact hcl) (n63 _) y3 (fun q => q4 ((fu.2.2.2.2.1 _).symm.trans q)) y4 q5 q6 cert'.2.1 cert'.2.2.1 lk RU.1 (RU.2.2.2.1 _ k23').1 RU.2.1 (by omega) (by omega) wl (by omega) z1 z2 (fun z' f => by rw [← q2]; exact (dd2 z' (bz.trans f.b)).2) (by rw [← q2]; exact (dd3 zc1 bx).2) (dd3 zc1 bx).1.1 (fun z' f => by rw [← q5]; exact ((dd3 z' (bx.trans f)).1.2.2.2.1 _ (by omega)).1)
            exact step_call fi n0 eU hf q1 q3 q2 cert'.1 q7 q8 O n1 n2 fb f2.x
      · have ob : (o = 0 ∨ o = 2 ∨ o = 3 ∨ o = 4 ∨ o = 35 ∨ o = 45) ∨ ((5 ≤ o ∧ o ≤ 10) ∨ o = 46) ∨ (11 ≤ o ∧ o ≤ 15) ∨ (16 ≤ o ∧ o ≤ 20) ∨ (o = 21 ∨ o = 22) ∨ (24 ≤ o ∧ o ≤ 44 ∧ o ≠ 35) ∨ (47 ≤ o ∧ o ≤ 51) ∨ (52 ≤ o ∧ o ≤ 59) := by
          clear hn hbr eX HP i4 i6 i8 i9 i10 k11 k16 k21 k47 k23 k52
          omega
        rcases ob with q | q | ⟨q1, q2⟩ | ⟨q1, q2⟩ | q | ⟨q1, q2, q3⟩ | ⟨q1, q2⟩ | ⟨q1, q2⟩
        · have tt : ∃ to, 2 ≤ o → o < 5 → rr.toInt32 = nI to ∧ x.toInt32 = nI to ∧ x.toInt.toNat = to := by
            by_cases c2 : 2 ≤ o ∧ o < 5
            · obtain ⟨to, t1, t2, t3⟩ := i8 c2.1 c2.2
              exact ⟨to, fun _ _ => ⟨t2, by rw [t3]; exact lN_i32, by rw [t3]; exact lN_tI (by omega)⟩⟩
            · exact ⟨0, fun a b => absurd ⟨a, b⟩ c2⟩
          obtain ⟨to, t1⟩ := tt
          have O := dis_br (p := pk (fr (nf - 1)).1.1) (w := nI w) (y := y) (a0 := a0) (to := to) (r := rr) S1 fm1 q rfl i7 (fun a b => ⟨(t1 a b).1, (t1 a b).2.1⟩) hop
          by_cases c45 : o = 45
          · subst c45
            have hop' : lTakeT [3] (Ce (fr (nf - 1)).1.1 (fr (nf - 1)).1.2.1 (fr (nf - 1)).1.2.2) = .ok L' := hop
            obtain ⟨s1, s2, s3⟩ := takeT_ok hop'
            have O2 := sim_45 (F := F) (L' := L') (x := x) (y := y) (to := rr.toInt32) (P := fun _ => False) S1 fm1 s1 s2
            rw [stepD_st (.inr rfl), i7, cal_s]
            exact step_out lw fi n0 eU hf O2 (fun j hj => absurd hj id) fb f2.x
          · refine step_out lw fi n0 eU hf O (fun j hj => ?_) fb f2.x
            rcases hj with ⟨h2, hj⟩ | ⟨ha, hb, hj⟩
            · exact HP o1 h2 c45 j hj
            · have := hbr ha hb
              rw [(t1 ha hb).2.2] at this
              rw [hj]; exact this
        · exact step_out lw fi n0 eU hf (dis_const S1 hE v2 fm1 q CU1.1 (fun e => ⟨a0, i3, i4 (.inl e), i2⟩) i9 i10 sd1 hop) (HP o1 (by clear i9 i10 i4 i6 i8 eX HP hn hbr k11 k16 k21 k47 k23 k52; omega) (by clear i9 i10 i4 i6 i8 eX HP hn hbr k11 k16 k21 k47 k23 k52; omega)) fb f2.x
        · obtain ⟨x1, x2⟩ := eX (.inr (.inl ⟨q1, by clear i9 i10 i4 i6 i8 eX HP hn hbr k11 k16 k21 k47 k23 k52; omega⟩))
          have ka := k11 q1 q2
          rw [x1] at hop ka
          have hop' : aLocal U (locOf U (fr (nf - 1)).1.2.1) o a0 (Ce (fr (nf - 1)).1.1 (fr (nf - 1)).1.2.1 (fr (nf - 1)).1.2.2) = .ok L' := by
            unfold aOp at hop
            simp only at hop
            rw [if_neg (show o ≠ 0 by omega), if_neg o1, if_neg (show ¬ o < 5 by omega), if_neg (show ¬ o < 11 by omega), if_pos (show o < 16 by omega)] at hop
            exact hop
          exact step_out lw fi n0 eU hf (dis_loc hF S1 hE hA v2 fm1 q1 q2 ka (by omega) (lST _ ka) hop' x2) (HP o1 (by omega) (by omega)) fb f2.x
        · have hop' : aRef U (locOf U (fr (nf - 1)).1.2.1) o x.toInt.toNat y.toInt.toNat (Ce (fr (nf - 1)).1.1 (fr (nf - 1)).1.2.1 (fr (nf - 1)).1.2.2) = .ok L' := by
            unfold aOp at hop
            simp only at hop
            rw [if_neg (show o ≠ 0 by omega), if_neg o1, if_neg (show ¬ o < 5 by omega), if_neg (show ¬ o < 11 by omega), if_neg (show ¬ o < 16 by omega), if_pos (show o < 21 by omega)] at hop
            exact hop
          exact step_out lw fi n0 eU hf (dis_ref hF S1 hE hA v2 fm1 q1 q2 (fun e => by
            obtain ⟨w1, w2⟩ := k16 e
            obtain ⟨b, y1, y2, y3⟩ := i6 (e.elim .inl (fun e => .inr (.inl e)))
            have eb : y.toInt.toNat = b := by rw [y2]; exact lN_tI (by omega)
            refine ⟨w1, w2, ?_, ?_⟩
            · rw [eb, y2]; exact lN_i32
            · rw [eb]; exact y3) i5 hop') (HP o1 (by omega) (by omega)) fb f2.x
        · obtain ⟨x1, x2⟩ := eX (.inr (.inr (.inl ⟨by omega, by omega⟩)))
          have ka := k21 q
          rw [x1] at hop ka
          have hop' : aPack U o a0 (Ce (fr (nf - 1)).1.1 (fr (nf - 1)).1.2.1 (fr (nf - 1)).1.2.2) = .ok L' := by
            unfold aOp at hop
            simp only at hop
            rw [if_neg (show o ≠ 0 by omega), if_neg o1, if_neg (show ¬ o < 5 by omega), if_neg (show ¬ o < 11 by omega), if_neg (show ¬ o < 16 by omega), if_neg (show ¬ o < 21 by omega), if_pos (show o < 23 by omega)] at hop
            exact hop
          exact step_out lw fi n0 eU hf (dis_pack hF S1 hE hA v2 fm1 q ka x2 hop' RU.1 (fun z' f => ⟨by rw [f.1]; exact lk, ((d2 z' (bz.trans f.b)).1.2.2.2.2.1 _ ka).2⟩) (RU.2.2.2.2.1 _ ka).1 (CU1.2.2.2.2.1 _ ka)) (HP o1 (by omega) (by omega)) fb f2.x
        · have hop' : aNum U o (Ce (fr (nf - 1)).1.1 (fr (nf - 1)).1.2.1 (fr (nf - 1)).1.2.2) = .ok L' := by
            unfold aOp at hop
            simp only at hop
            rw [if_neg (show o ≠ 0 by omega), if_neg o1, if_neg (show ¬ o < 5 by omega), if_neg (show ¬ o < 11 by omega), if_neg (show ¬ o < 16 by omega), if_neg (show ¬ o < 21 by omega), if_neg (show ¬ o < 23 by omega), if_neg o23, if_neg q3, if_pos (show o < 45 by omega)] at hop
            exact hop
          exact step_out lw fi n0 eU hf (dis_num hF W S1 hE hA v2 fm1 q1 q2 q3 hop') (HP o1 (by omega) (by omega)) fb f2.x
        · obtain ⟨x1, x2⟩ := eX (.inr (.inr (.inr ⟨q1, by omega⟩)))
          have ka := k47 q1 q2
          rw [x1] at hop ka
          have hop' : aRes U (locOf U (fr (nf - 1)).1.2.1) (fr (nf - 1)).1.2.1 o a0 (Ce (fr (nf - 1)).1.1 (fr (nf - 1)).1.2.1 (fr (nf - 1)).1.2.2) = .ok L' := by
            unfold aOp at hop
            simp only at hop
            rw [if_neg (show o ≠ 0 by omega), if_neg o1, if_neg (show ¬ o < 5 by omega), if_neg (show ¬ o < 11 by omega), if_neg (show ¬ o < 16 by omega), if_neg (show ¬ o < 21 by omega), if_neg (show ¬ o < 23 by omega), if_neg o23, if_neg (show o ≠ 35 by omega), if_neg (show ¬ o < 45 by omega), if_neg (show o ≠ 45 by omega), if_neg (show o ≠ 46 by omega), if_pos (show o < 52 by omega)] at hop
            exact hop
          exact step_out lw fi n0 eU hf (dis_res hF S1 hE hA (by rw [tp]; exact v2) fm1 rl1 cg1 lg h0 sd1 q1 q2 ka i3 (v4 _ ka).1 lk RU.1 (RU.2.2.2.2.1 _ ka).2 x2 CU1.2.1 (by rw [tp]; exact hop')) (HP o1 (by omega) (by omega)) fb f2.x
        · have hop' : aVec U (locOf U (fr (nf - 1)).1.2.1) o x.toInt.toNat y.toInt.toNat (Ce (fr (nf - 1)).1.1 (fr (nf - 1)).1.2.1 (fr (nf - 1)).1.2.2) = .ok L' := by
            unfold aOp at hop
            simp only at hop
            rw [if_neg (show o ≠ 0 by omega), if_neg o1, if_neg (show ¬ o < 5 by omega), if_neg (show ¬ o < 11 by omega), if_neg (show ¬ o < 16 by omega), if_neg (show ¬ o < 21 by omega), if_neg (show ¬ o < 23 by omega), if_neg o23, if_neg (show o ≠ 35 by omega), if_neg (show ¬ o < 45 by omega), if_neg (show o ≠ 45 by omega), if_neg (show o ≠ 46 by omega), if_neg (show ¬ o < 52 by omega)] at hop
            exact hop
          exact step_out lw fi n0 eU hf (dis_vec hF S1 hE hA v2 fm1 q1 q2 (fun e => k52 q1 (by omega)) (fun e => by
            obtain ⟨b, y1, y2, y3⟩ := i6 (.inr (.inr e))
            have eb : y.toInt.toNat = b := by rw [y2]; exact lN_tI (by omega)
            refine ⟨?_, ?_⟩
            · rw [eb, y2]; exact lN_i32
            · rw [eb]; exact y3) i5 hop') (HP o1 (by omega) (by omega)) fb f2.x
  · obtain ⟨z1, p1, p2, p3⟩ := RF.1 (by omega)
    obtain ⟨z2, q1, q2, q3⟩ := CF.1 (by omega)
    exact ⟨z1, z2, p1, q1, FrB.lk.trans p3.b, q3.x, .inl ⟨2, 5, lim, .inr rfl, p2, q2⟩⟩
end
