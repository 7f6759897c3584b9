set_option maxRecDepth 100000 in
set_option maxHeartbeats 4000000 in
theorem c_R_cross (l : Launch) (z1 : Int64) (z2 : Int64) (z3 : Int64) (z4 : Int64) (z5 : Int64) (z6 : Int64) : Met l y_R_cross (Cond.code y_R_cross b_R_cross 12 (some .long) :: ec_tbl) ({ frames := 0, cells := 0, slots := 0, locals := 0 }) (va_Pc [.long z1, .long z2, .long z3, .long z4, .long z5, .long z6] (fun _ => True)) (vp_Sl (fun r : Int64 => r = (z3 - z1) * (z6 - z2) - (z4 - z2) * (z5 - z1))) 0 0 (fun _ => False) := by
  refine Met.ofW (cc := b_R_cross) (maxL := 12) (ret := (some .long)) (by decide) rfl ?_
  intro p e s m args below meth c s₁ B hml hv0
  obtain ⟨rfl, -⟩ := hv0
  have hx := B.exec
  have hb := B.bytes
  have hr := B.returns
  have hts := atoms_spec (ws := (Cond.code y_R_cross b_R_cross 12 (some .long) :: ec_tbl)) B.pre
  have htb : ∀ w ∈ ec_tbl, w.before _ s = true := fun w h => hts w (List.mem_cons_of_mem _ h)
  clear hts
  have hown : s.vm.findClass "ExactMeshModel" = some m.cls := findClass_of_methodNamed B.named
  have hlocks := B.notSynchronized
  have hl := lv_entry ([.long z1, .long z2, .long z3, .long z4, .long z5, .long z6]) (n := 12) (Nat.le_of_ble_eq_true rfl)
  rw [lg_entry_eq]
  generalize (lg_sl ([.long z1, .long z2, .long z3, .long z4, .long z5, .long z6]) ++ List.replicate (12 - (lg_sl ([.long z1, .long z2, .long z3, .long z4, .long z5, .long z6])).length) Slot.unset).toArray = ls at hl ⊢
  replace hl : lv_has ls 12 [(0, .long z1), (2, .long z2), (4, .long z3), (6, .long z4), (8, .long z5), (10, .long z6)] := hl
  refine lv_lload hx hb d_R_cross_0 (lv_at hl 2 rfl) ?_
  refine lv_lload_n hx hb d_R_cross_2 rfl (lv_at hl 0 rfl) ?_
  refine lv_lsub hx hb d_R_cross_3 ?_
  refine lv_lload hx hb d_R_cross_4 (lv_at hl 5 rfl) ?_
  refine lv_lload_n hx hb d_R_cross_6 rfl (lv_at hl 1 rfl) ?_
  refine lv_lsub hx hb d_R_cross_7 ?_
  refine lv_lmul hx hb d_R_cross_8 ?_
  refine lv_lload hx hb d_R_cross_9 (lv_at hl 3 rfl) ?_
  refine lv_lload_n hx hb d_R_cross_11 rfl (lv_at hl 1 rfl) ?_
  refine lv_lsub hx hb d_R_cross_12 ?_
  refine lv_lload hx hb d_R_cross_13 (lv_at hl 4 rfl) ?_
  refine lv_lload_n hx hb d_R_cross_15 rfl (lv_at hl 0 rfl) ?_
  refine lv_lsub hx hb d_R_cross_16 ?_
  refine lv_lmul hx hb d_R_cross_17 ?_
  refine lv_lsub hx hb d_R_cross_18 ?_
  exact W.lret hx hb hr (fun tS ht hW => ⟨_, rfl, rfl, ht⟩) (fun _ h => nomatch h) d_R_cross_19

set_option maxRecDepth 100000 in
set_option maxHeartbeats 4000000 in
theorem c_R_side (l : Launch) (dC : Nat → ClassId) (dI : Nat → Nat → Nat) (a : Nat → Nat) (cI cZ cJ : ClassId) (rn : Nat) (rx : Nat → Int32) (ry : Nat → Int32) (rl : Nat) (rf : Nat → Nat) (rt : Nat → Nat) (rh : Nat) (gx : Nat → Int32) (gy : Nat → Int32) (rc : Nat) (w1 : Nat → Nat) (w2 : Nat → Nat) (w3 : Nat → Nat) (rg : Nat → Prop) (rk : Nat) (kc : Nat → Nat) (kf : Nat → Prop) (kp : Nat → Int64) (rest : va_W) (i : Nat) (j : Nat) (vx : Int32) (vy : Int32) (g12 : rn ≤ 12) (gN : ∀ i, i < rn → ec_near (rx i) ∧ ec_near (ry i)) (hi : i < rn) (hj : j < rn) : Met l y_R_side (Cond.code y_R_side b_R_side 7 (some .long) :: ec_tbl) ({ frames := 1, cells := 0, slots := 0, locals := 31 }) (va_Pc [.ref (a 0), .int (nI i), .int (nI j), .long vx.toInt64, .long vy.toInt64] (fun U => va_P (dC, dI) vwCl (wR a cI cZ cJ rn rx ry rl rf rt rh gx gy rc w1 w2 w3 rg rk kc kf kp ++ rest) U.heap ∧ va_K (dC, dI) vwCl (ec_tys cI cZ cJ) U)) (vp_Sl (fun r : Int64 => r.toInt = ec_lf (rx i).toInt (ry i).toInt (rx j).toInt (ry j).toInt vx.toInt vy.toInt)) 0 0 (fun _ => False) := by
  refine Met.ofW (cc := b_R_side) (maxL := 7) (ret := (some .long)) (by decide) rfl ?_
  intro p e s m args below meth c s₁ B hml hv0
  obtain ⟨rfl, hP, hK⟩ := hv0
  have hx := B.exec
  have hb := B.bytes
  have hr := B.returns
  have hts := atoms_spec (ws := (Cond.code y_R_side b_R_side 7 (some .long) :: ec_tbl)) B.pre
  have htb : ∀ w ∈ ec_tbl, w.before _ s = true := fun w h => hts w (List.mem_cons_of_mem _ h)
  clear hts
  have hown : s.vm.findClass "ExactMeshModel" = some m.cls := findClass_of_methodNamed B.named
  have hlocks := B.notSynchronized
  have hl := lv_entry ([.ref (a 0), .int (nI i), .int (nI j), .long vx.toInt64, .long vy.toInt64]) (n := 7) (Nat.le_of_ble_eq_true rfl)
  rw [lg_entry_eq]
  generalize (lg_sl ([.ref (a 0), .int (nI i), .int (nI j), .long vx.toInt64, .long vy.toInt64]) ++ List.replicate (7 - (lg_sl ([.ref (a 0), .int (nI i), .int (nI j), .long vx.toInt64, .long vy.toInt64])).length) Slot.unset).toArray = ls at hl ⊢
  replace hl : lv_has ls 7 [(0, .ref (a 0)), (1, .int (nI i)), (2, .int (nI j)), (3, .long vx.toInt64), (5, .long vy.toInt64)] := hl
  refine lv_aload_n hx hb d_R_side_0 rfl (lv_at hl 0 rfl) ?_
  refine va_get (D := (dC, dI)) (ci := 5) (v := .ref (a 1)) (C := R_R) (T := T_R) (N := 18) hx hb htb in_R hown hK hP 0 rfl rfl 1 (by decide) (htb _ wd_450) (fun _ h9 => h9) rfl d_R_side_1 ?_
  refine lv_iload_n hx hb d_R_side_4 rfl (lv_at hl 1 rfl) ?_
  refine ec_iald (f := rx) (i := i) hx hb hK hP 1 0 rfl rfl (by omega) (by decide) d_R_side_5 ?_
  refine lv_i2l hx hb d_R_side_6 rfl ?_
  refine lv_aload_n hx hb d_R_side_7 rfl (lv_at hl 0 rfl) ?_
  refine va_get (D := (dC, dI)) (ci := 5) (v := .ref (a 2)) (C := R_R) (T := T_R) (N := 18) hx hb htb in_R hown hK hP 0 rfl rfl 2 (by decide) (htb _ wd_451) (fun _ h9 => h9) rfl d_R_side_8 ?_
  refine lv_iload_n hx hb d_R_side_11 rfl (lv_at hl 1 rfl) ?_
  refine ec_iald (f := ry) (i := i) hx hb hK hP 2 0 rfl rfl (by omega) (by decide) d_R_side_12 ?_
  refine lv_i2l hx hb d_R_side_13 rfl ?_
  refine lv_aload_n hx hb d_R_side_14 rfl (lv_at hl 0 rfl) ?_
  refine va_get (D := (dC, dI)) (ci := 5) (v := .ref (a 1)) (C := R_R) (T := T_R) (N := 18) hx hb htb in_R hown hK hP 0 rfl rfl 1 (by decide) (htb _ wd_450) (fun _ h9 => h9) rfl d_R_side_15 ?_
  refine lv_iload_n hx hb d_R_side_18 rfl (lv_at hl 2 rfl) ?_
  refine ec_iald (f := rx) (i := j) hx hb hK hP 1 0 rfl rfl (by omega) (by decide) d_R_side_19 ?_
  refine lv_i2l hx hb d_R_side_20 rfl ?_
  refine lv_aload_n hx hb d_R_side_21 rfl (lv_at hl 0 rfl) ?_
  refine va_get (D := (dC, dI)) (ci := 5) (v := .ref (a 2)) (C := R_R) (T := T_R) (N := 18) hx hb htb in_R hown hK hP 0 rfl rfl 2 (by decide) (htb _ wd_451) (fun _ h9 => h9) rfl d_R_side_22 ?_
  refine lv_iload_n hx hb d_R_side_25 rfl (lv_at hl 2 rfl) ?_
  refine ec_iald (f := ry) (i := j) hx hb hK hP 2 0 rfl rfl (by omega) (by decide) d_R_side_26 ?_
  refine lv_i2l hx hb d_R_side_27 rfl ?_
  refine lv_lload_n hx hb d_R_side_28 rfl (lv_at hl 3 rfl) ?_
  refine lv_lload hx hb d_R_side_29 (lv_at hl 4 rfl) ?_
  refine ec_sTSl (As := [.long ((rx i).toInt64), .long ((ry i).toInt64), .long ((rx j).toInt64), .long ((ry j).toInt64), .long vx.toInt64, .long vy.toInt64]) (rest := []) ⟨hx, hb, hml, hown, htb⟩ (c_R_cross l ((rx i).toInt64) ((ry i).toInt64) ((rx j).toInt64) ((ry j).toInt64) vx.toInt64 vy.toInt64) ks_R_cross wd_522 ⟨Nat.le_of_ble_eq_true rfl, Nat.le_of_ble_eq_true rfl⟩ ⟨rfl, rfl⟩ rfl hl.1 rfl (Nat.le_of_ble_eq_true rfl) d_R_side_31 ⟨Nat.zero_le _, Nat.zero_le _⟩ (fun r31 hr31 => ?_)
  replace hr31 : r31 = (((rx j).toInt64) - ((rx i).toInt64)) * (vy.toInt64 - ((ry i).toInt64)) - (((ry j).toInt64) - ((ry i).toInt64)) * (vx.toInt64 - ((rx i).toInt64)) := hr31
  subst hr31
  exact W.lret hx hb hr (fun tS ht hW => ⟨_, rfl, (ec_left vx vy (gN i hi).1 (gN i hi).2 (gN j hj).1 (gN j hj).2), ht⟩) (fun _ h => nomatch h) d_R_side_34

set_option maxRecDepth 100000 in
set_option maxHeartbeats 4000000 in
theorem c_R_of (l : Launch) (dC : Nat → ClassId) (dI : Nat → Nat → Nat) (a : Nat → Nat) (cI cZ cJ : ClassId) (rn : Nat) (rx : Nat → Int32) (ry : Nat → Int32) (rl : Nat) (rf : Nat → Nat) (rt : Nat → Nat) (rh : Nat) (gx : Nat → Int32) (gy : Nat → Int32) (rc : Nat) (w1 : Nat → Nat) (w2 : Nat → Nat) (w3 : Nat → Nat) (rg : Nat → Prop) (rk : Nat) (kc : Nat → Nat) (kf : Nat → Prop) (kp : Nat → Int64) (rest : va_W) (i : Nat) (j : Nat) (k : Nat) (g12 : rn ≤ 12) (gN : ∀ i, i < rn → ec_near (rx i) ∧ ec_near (ry i)) (hi : i < rn) (hj : j < rn) (hk : k < rn) : Met l y_R_of (Cond.code y_R_of b_R_of 4 (some .long) :: ec_tbl) ({ frames := 1, cells := 0, slots := 0, locals := 31 }) (va_Pc [.ref (a 0), .int (nI i), .int (nI j), .int (nI k)] (fun U => va_P (dC, dI) vwCl (wR a cI cZ cJ rn rx ry rl rf rt rh gx gy rc w1 w2 w3 rg rk kc kf kp ++ rest) U.heap ∧ va_K (dC, dI) vwCl (ec_tys cI cZ cJ) U)) (vp_Sl (fun r : Int64 => r.toInt = ge_ori (ec_P rx ry i) (ec_P rx ry j) (ec_P rx ry k))) 0 0 (fun _ => False) := by
  refine Met.ofW (cc := b_R_of) (maxL := 4) (ret := (some .long)) (by decide) rfl ?_
  intro p e s m args below meth c s₁ B hml hv0
  obtain ⟨rfl, hP, hK⟩ := hv0
  have hx := B.exec
  have hb := B.bytes
  have hr := B.returns
  have hts := atoms_spec (ws := (Cond.code y_R_of b_R_of 4 (some .long) :: ec_tbl)) B.pre
  have htb : ∀ w ∈ ec_tbl, w.before _ s = true := fun w h => hts w (List.mem_cons_of_mem _ h)
  clear hts
  have hown : s.vm.findClass "ExactMeshModel" = some m.cls := findClass_of_methodNamed B.named
  have hlocks := B.notSynchronized
  have hl := lv_entry ([.ref (a 0), .int (nI i), .int (nI j), .int (nI k)]) (n := 4) (Nat.le_of_ble_eq_true rfl)
  rw [lg_entry_eq]
  generalize (lg_sl ([.ref (a 0), .int (nI i), .int (nI j), .int (nI k)]) ++ List.replicate (4 - (lg_sl ([.ref (a 0), .int (nI i), .int (nI j), .int (nI k)])).length) Slot.unset).toArray = ls at hl ⊢
  replace hl : lv_has ls 4 [(0, .ref (a 0)), (1, .int (nI i)), (2, .int (nI j)), (3, .int (nI k))] := hl
  refine lv_aload_n hx hb d_R_of_0 rfl (lv_at hl 0 rfl) ?_
  refine va_get (D := (dC, dI)) (ci := 5) (v := .ref (a 1)) (C := R_R) (T := T_R) (N := 18) hx hb htb in_R hown hK hP 0 rfl rfl 1 (by decide) (htb _ wd_450) (fun _ h9 => h9) rfl d_R_of_1 ?_
  refine lv_iload_n hx hb d_R_of_4 rfl (lv_at hl 1 rfl) ?_
  refine ec_iald (f := rx) (i := i) hx hb hK hP 1 0 rfl rfl (by omega) (by decide) d_R_of_5 ?_
  refine lv_i2l hx hb d_R_of_6 rfl ?_
  refine lv_aload_n hx hb d_R_of_7 rfl (lv_at hl 0 rfl) ?_
  refine va_get (D := (dC, dI)) (ci := 5) (v := .ref (a 2)) (C := R_R) (T := T_R) (N := 18) hx hb htb in_R hown hK hP 0 rfl rfl 2 (by decide) (htb _ wd_451) (fun _ h9 => h9) rfl d_R_of_8 ?_
  refine lv_iload_n hx hb d_R_of_11 rfl (lv_at hl 1 rfl) ?_
  refine ec_iald (f := ry) (i := i) hx hb hK hP 2 0 rfl rfl (by omega) (by decide) d_R_of_12 ?_
  refine lv_i2l hx hb d_R_of_13 rfl ?_
  refine lv_aload_n hx hb d_R_of_14 rfl (lv_at hl 0 rfl) ?_
  refine va_get (D := (dC, dI)) (ci := 5) (v := .ref (a 1)) (C := R_R) (T := T_R) (N := 18) hx hb htb in_R hown hK hP 0 rfl rfl 1 (by decide) (htb _ wd_450) (fun _ h9 => h9) rfl d_R_of_15 ?_
  refine lv_iload_n hx hb d_R_of_18 rfl (lv_at hl 2 rfl) ?_
  refine ec_iald (f := rx) (i := j) hx hb hK hP 1 0 rfl rfl (by omega) (by decide) d_R_of_19 ?_
  refine lv_i2l hx hb d_R_of_20 rfl ?_
  refine lv_aload_n hx hb d_R_of_21 rfl (lv_at hl 0 rfl) ?_
  refine va_get (D := (dC, dI)) (ci := 5) (v := .ref (a 2)) (C := R_R) (T := T_R) (N := 18) hx hb htb in_R hown hK hP 0 rfl rfl 2 (by decide) (htb _ wd_451) (fun _ h9 => h9) rfl d_R_of_22 ?_
  refine lv_iload_n hx hb d_R_of_25 rfl (lv_at hl 2 rfl) ?_
  refine ec_iald (f := ry) (i := j) hx hb hK hP 2 0 rfl rfl (by omega) (by decide) d_R_of_26 ?_
  refine lv_i2l hx hb d_R_of_27 rfl ?_
  refine lv_aload_n hx hb d_R_of_28 rfl (lv_at hl 0 rfl) ?_
  refine va_get (D := (dC, dI)) (ci := 5) (v := .ref (a 1)) (C := R_R) (T := T_R) (N := 18) hx hb htb in_R hown hK hP 0 rfl rfl 1 (by decide) (htb _ wd_450) (fun _ h9 => h9) rfl d_R_of_29 ?_
  refine lv_iload_n hx hb d_R_of_32 rfl (lv_at hl 3 rfl) ?_
  refine ec_iald (f := rx) (i := k) hx hb hK hP 1 0 rfl rfl (by omega) (by decide) d_R_of_33 ?_
  refine lv_i2l hx hb d_R_of_34 rfl ?_
  refine lv_aload_n hx hb d_R_of_35 rfl (lv_at hl 0 rfl) ?_
  refine va_get (D := (dC, dI)) (ci := 5) (v := .ref (a 2)) (C := R_R) (T := T_R) (N := 18) hx hb htb in_R hown hK hP 0 rfl rfl 2 (by decide) (htb _ wd_451) (fun _ h9 => h9) rfl d_R_of_36 ?_
  refine lv_iload_n hx hb d_R_of_39 rfl (lv_at hl 3 rfl) ?_
  refine ec_iald (f := ry) (i := k) hx hb hK hP 2 0 rfl rfl (by omega) (by decide) d_R_of_40 ?_
  refine lv_i2l hx hb d_R_of_41 rfl ?_
  refine ec_sTSl (As := [.long ((rx i).toInt64), .long ((ry i).toInt64), .long ((rx j).toInt64), .long ((ry j).toInt64), .long ((rx k).toInt64), .long ((ry k).toInt64)]) (rest := []) ⟨hx, hb, hml, hown, htb⟩ (c_R_cross l ((rx i).toInt64) ((ry i).toInt64) ((rx j).toInt64) ((ry j).toInt64) ((rx k).toInt64) ((ry k).toInt64)) ks_R_cross wd_522 ⟨Nat.le_of_ble_eq_true rfl, Nat.le_of_ble_eq_true rfl⟩ ⟨rfl, rfl⟩ rfl hl.1 rfl (Nat.le_of_ble_eq_true rfl) d_R_of_42 ⟨Nat.zero_le _, Nat.zero_le _⟩ (fun r42 hr42 => ?_)
  replace hr42 : r42 = (((rx j).toInt64) - ((rx i).toInt64)) * (((ry k).toInt64) - ((ry i).toInt64)) - (((ry j).toInt64) - ((ry i).toInt64)) * (((rx k).toInt64) - ((rx i).toInt64)) := hr42
  subst hr42
  exact W.lret hx hb hr (fun tS ht hW => ⟨_, rfl, (ec_left (rx k) (ry k) (gN i hi).1 (gN i hi).2 (gN j hj).1 (gN j hj).2), ht⟩) (fun _ h => nomatch h) d_R_of_45

set_option maxRecDepth 100000 in
set_option maxHeartbeats 4000000 in
theorem c_R_sign (l : Launch) (z : Int64) : Met l y_R_sign (Cond.code y_R_sign b_R_sign 2 (some .int) :: ec_tbl) ({ frames := 0, cells := 0, slots := 0, locals := 0 }) (va_Pc [.long z] (fun _ => True)) (vp_Si (fun r : Int32 => r = ec_sgn z.toInt)) 0 0 (fun _ => False) := by
  refine Met.ofW (cc := b_R_sign) (maxL := 2) (ret := (some .int)) (by decide) rfl ?_
  intro p e s m args below meth c s₁ B hml hv0
  obtain ⟨rfl, -⟩ := hv0
  have hx := B.exec
  have hb := B.bytes
  have hr := B.returns
  have hts := atoms_spec (ws := (Cond.code y_R_sign b_R_sign 2 (some .int) :: ec_tbl)) B.pre
  have htb : ∀ w ∈ ec_tbl, w.before _ s = true := fun w h => hts w (List.mem_cons_of_mem _ h)
  clear hts
  have hown : s.vm.findClass "ExactMeshModel" = some m.cls := findClass_of_methodNamed B.named
  have hlocks := B.notSynchronized
  have hl := lv_entry ([.long z]) (n := 2) (Nat.le_of_ble_eq_true rfl)
  rw [lg_entry_eq]
  generalize (lg_sl ([.long z]) ++ List.replicate (2 - (lg_sl ([.long z])).length) Slot.unset).toArray = ls at hl ⊢
  replace hl : lv_has ls 2 [(0, .long z)] := hl
  refine lv_lload_n hx hb d_R_sign_0 rfl (lv_at hl 0 rfl) ?_
  refine lv_lconst (v := 0) hx hb d_R_sign_1 (by decide) ?_
  refine W.lcmp hx hb d_R_sign_2 ?_
  refine lv_if_le (tgt := 10) hx hb d_R_sign_3 rfl (fun h3 => ?_) (fun h3 => ?_)
  · rw [lg_cmp_le] at h3
    refine lv_lload_n hx hb d_R_sign_10 rfl (lv_at hl 0 rfl) ?_
    refine lv_lconst (v := 0) hx hb d_R_sign_11 (by decide) ?_
    refine W.lcmp hx hb d_R_sign_12 ?_
    refine lv_if_ge (tgt := 20) hx hb d_R_sign_13 rfl (fun h13 => ?_) (fun h13 => ?_)
    · rw [lg_cmp_ge] at h13
      refine lv_iconst (v := nI 0) hx hb d_R_sign_20 (by decide) ?_
      exact W.iret hx hb hr (fun tS ht hW => ⟨_, rfl, (ec_sgR0 h3 h13), ht⟩) (fun _ h => nomatch h) d_R_sign_21
    · rw [lg_cmp_ge] at h13
      refine lv_iconst (v := -1) hx hb d_R_sign_16 (by decide) ?_
      refine lv_goto (tgt := 21) hx hb d_R_sign_17 rfl ?_
      exact W.iret hx hb hr (fun tS ht hW => ⟨_, rfl, (ec_sgRm h13), ht⟩) (fun _ h => nomatch h) d_R_sign_21
  · rw [lg_cmp_le] at h3
    refine lv_iconst (v := nI 1) hx hb d_R_sign_6 (by decide) ?_
    refine lv_goto (tgt := 21) hx hb d_R_sign_7 rfl ?_
    exact W.iret hx hb hr (fun tS ht hW => ⟨_, rfl, (ec_sgR1 h3), ht⟩) (fun _ h => nomatch h) d_R_sign_21

set_option maxRecDepth 100000 in
set_option maxHeartbeats 4000000 in
theorem c_R_isPoint (l : Launch) (dC : Nat → ClassId) (dI : Nat → Nat → Nat) (a : Nat → Nat) (cI cZ cJ : ClassId) (rn : Nat) (rx : Nat → Int32) (ry : Nat → Int32) (rl : Nat) (rf : Nat → Nat) (rt : Nat → Nat) (rh : Nat) (gx : Nat → Int32) (gy : Nat → Int32) (rc : Nat) (w1 : Nat → Nat) (w2 : Nat → Nat) (w3 : Nat → Nat) (rg : Nat → Prop) (rk : Nat) (kc : Nat → Nat) (kf : Nat → Prop) (kp : Nat → Int64) (rest : va_W) (v : Int32) (g12 : rn ≤ 12) : Met l y_R_isPoint (Cond.code y_R_isPoint b_R_isPoint 2 (some .boolean) :: ec_tbl) ({ frames := 0, cells := 0, slots := 0, locals := 0 }) (va_Pc [.ref (a 0), .int v] (fun U => va_P (dC, dI) vwCl (wR a cI cZ cJ rn rx ry rl rf rt rh gx gy rc w1 w2 w3 rg rk kc kf kp ++ rest) U.heap ∧ va_K (dC, dI) vwCl (ec_tys cI cZ cJ) U)) (vp_Si (fun r : Int32 => ec_isB r (0 ≤ v.toInt ∧ v.toInt < rn))) 0 0 (fun _ => False) := by
  refine Met.ofW (cc := b_R_isPoint) (maxL := 2) (ret := (some .boolean)) (by decide) rfl ?_
  intro p e s m args below meth c s₁ B hml hv0
  obtain ⟨rfl, hP, hK⟩ := hv0
  have hx := B.exec
  have hb := B.bytes
  have hr := B.returns
  have hts := atoms_spec (ws := (Cond.code y_R_isPoint b_R_isPoint 2 (some .boolean) :: ec_tbl)) B.pre
  have htb : ∀ w ∈ ec_tbl, w.before _ s = true := fun w h => hts w (List.mem_cons_of_mem _ h)
  clear hts
  have hown : s.vm.findClass "ExactMeshModel" = some m.cls := findClass_of_methodNamed B.named
  have hlocks := B.notSynchronized
  have hl := lv_entry ([.ref (a 0), .int v]) (n := 2) (Nat.le_of_ble_eq_true rfl)
  rw [lg_entry_eq]
  generalize (lg_sl ([.ref (a 0), .int v]) ++ List.replicate (2 - (lg_sl ([.ref (a 0), .int v])).length) Slot.unset).toArray = ls at hl ⊢
  replace hl : lv_has ls 2 [(0, .ref (a 0)), (1, .int v)] := hl
  refine lv_iload_n hx hb d_R_isPoint_0 rfl (lv_at hl 1 rfl) ?_
  refine lv_if_lt (tgt := 16) hx hb d_R_isPoint_1 rfl (fun h1 => ?_) (fun h1 => ?_)
  · refine lv_iconst (v := nI 0) hx hb d_R_isPoint_16 (by decide) ?_
    exact W.zret hx hb hr rfl (fun tS ht hW => ⟨_, rfl, (ec_has0 h1), ht⟩) (fun _ h => nomatch h) d_R_isPoint_17
  · refine lv_iload_n hx hb d_R_isPoint_4 rfl (lv_at hl 1 rfl) ?_
    refine lv_aload_n hx hb d_R_isPoint_5 rfl (lv_at hl 0 rfl) ?_
    refine va_get (D := (dC, dI)) (ci := 5) (v := .int (nI rn)) (C := R_R) (T := T_R) (N := 18) hx hb htb in_R hown hK hP 0 rfl rfl 0 (by decide) (htb _ wd_449) (fun _ h9 => h9) rfl d_R_isPoint_6 ?_
    refine lv_icmp_ge (tgt := 16) hx hb d_R_isPoint_9 rfl (fun h9 => ?_) (fun h9 => ?_)
    · refine lv_iconst (v := nI 0) hx hb d_R_isPoint_16 (by decide) ?_
      exact W.zret hx hb hr rfl (fun tS ht hW => ⟨_, rfl, (ec_has1 (by omega) h9), ht⟩) (fun _ h => nomatch h) d_R_isPoint_17
    · refine lv_iconst (v := nI 1) hx hb d_R_isPoint_12 (by decide) ?_
      refine lv_goto (tgt := 17) hx hb d_R_isPoint_13 rfl ?_
      exact W.zret hx hb hr rfl (fun tS ht hW => ⟨_, rfl, (ec_has2 (by omega) h1 h9), ht⟩) (fun _ h => nomatch h) d_R_isPoint_17

set_option maxRecDepth 100000 in
set_option maxHeartbeats 4000000 in
theorem c_R_far (l : Launch) (vx : Int32) (vy : Int32) : Met l y_R_far (Cond.code y_R_far b_R_far 2 (some .boolean) :: ec_tbl) ({ frames := 0, cells := 0, slots := 0, locals := 0 }) (va_Pc [.int vx, .int vy] (fun _ => True)) (vp_Si (fun r : Int32 => ec_isB r (¬ ec_nr2 vx vy))) 0 0 (fun _ => False) := by
  refine Met.ofW (cc := b_R_far) (maxL := 2) (ret := (some .boolean)) (by decide) rfl ?_
  intro p e s m args below meth c s₁ B hml hv0
  obtain ⟨rfl, -⟩ := hv0
  have hx := B.exec
  have hb := B.bytes
  have hr := B.returns
  have hts := atoms_spec (ws := (Cond.code y_R_far b_R_far 2 (some .boolean) :: ec_tbl)) B.pre
  have htb : ∀ w ∈ ec_tbl, w.before _ s = true := fun w h => hts w (List.mem_cons_of_mem _ h)
  clear hts
  have hown : s.vm.findClass "ExactMeshModel" = some m.cls := findClass_of_methodNamed B.named
  have hlocks := B.notSynchronized
  have hl := lv_entry ([.int vx, .int vy]) (n := 2) (Nat.le_of_ble_eq_true rfl)
  rw [lg_entry_eq]
  generalize (lg_sl ([.int vx, .int vy]) ++ List.replicate (2 - (lg_sl ([.int vx, .int vy])).length) Slot.unset).toArray = ls at hl ⊢
  replace hl : lv_has ls 2 [(0, .int vx), (1, .int vy)] := hl
  refine lv_iload_n hx hb d_R_far_0 rfl (lv_at hl 0 rfl) ?_
  refine lv_ldc hx hb hown (htb _ wd_512) d_R_far_1 ?_
  refine lv_icmp_lt (tgt := 24) hx hb d_R_far_3 rfl (fun h3 => ?_) (fun h3 => ?_)
  · refine lv_iconst (v := nI 1) hx hb d_R_far_24 (by decide) ?_
    refine lv_goto (tgt := 29) hx hb d_R_far_25 rfl ?_
    exact W.zret hx hb hr rfl (fun tS ht hW => ⟨_, rfl, (ec_isB.t1 (fun q => ec_near_lo h3 q.1)), ht⟩) (fun _ h => nomatch h) d_R_far_29
  · refine lv_iload_n hx hb d_R_far_6 rfl (lv_at hl 0 rfl) ?_
    refine lv_ldc hx hb hown (htb _ wd_513) d_R_far_7 ?_
    refine lv_icmp_gt (tgt := 24) hx hb d_R_far_9 rfl (fun h9 => ?_) (fun h9 => ?_)
    · refine lv_iconst (v := nI 1) hx hb d_R_far_24 (by decide) ?_
      refine lv_goto (tgt := 29) hx hb d_R_far_25 rfl ?_
      exact W.zret hx hb hr rfl (fun tS ht hW => ⟨_, rfl, (ec_isB.t1 (fun q => ec_near_hi h9 q.1)), ht⟩) (fun _ h => nomatch h) d_R_far_29
    · refine lv_iload_n hx hb d_R_far_12 rfl (lv_at hl 1 rfl) ?_
      refine lv_ldc hx hb hown (htb _ wd_512) d_R_far_13 ?_
      refine lv_icmp_lt (tgt := 24) hx hb d_R_far_15 rfl (fun h15 => ?_) (fun h15 => ?_)
      · refine lv_iconst (v := nI 1) hx hb d_R_far_24 (by decide) ?_
        refine lv_goto (tgt := 29) hx hb d_R_far_25 rfl ?_
        exact W.zret hx hb hr rfl (fun tS ht hW => ⟨_, rfl, (ec_isB.t1 (fun q => ec_near_lo h15 q.2)), ht⟩) (fun _ h => nomatch h) d_R_far_29
      · refine lv_iload_n hx hb d_R_far_18 rfl (lv_at hl 1 rfl) ?_
        refine lv_ldc hx hb hown (htb _ wd_513) d_R_far_19 ?_
        refine lv_icmp_le (tgt := 28) hx hb d_R_far_21 rfl (fun h21 => ?_) (fun h21 => ?_)
        · refine lv_iconst (v := nI 0) hx hb d_R_far_28 (by decide) ?_
          exact W.zret hx hb hr rfl (fun tS ht hW => ⟨_, rfl, (ec_isB.f0 (fun q => q ⟨ec_near_in h3 h9, ec_near_in h15 (by rw [Int32.not_lt]; exact h21)⟩)), ht⟩) (fun _ h => nomatch h) d_R_far_29
        · refine lv_iconst (v := nI 1) hx hb d_R_far_24 (by decide) ?_
          refine lv_goto (tgt := 29) hx hb d_R_far_25 rfl ?_
          exact W.zret hx hb hr rfl (fun tS ht hW => ⟨_, rfl, (ec_isB.t1 (fun q => ec_near_hi (by rw [← Int32.not_le]; exact h21) q.2)), ht⟩) (fun _ h => nomatch h) d_R_far_29

set_option maxRecDepth 100000 in
set_option maxHeartbeats 4000000 in
theorem c_R_on (l : Launch) (dC : Nat → ClassId) (dI : Nat → Nat → Nat) (a : Nat → Nat) (cI cZ cJ : ClassId) (rn : Nat) (rx : Nat → Int32) (ry : Nat → Int32) (rl : Nat) (rf : Nat → Nat) (rt : Nat → Nat) (rh : Nat) (gx : Nat → Int32) (gy : Nat → Int32) (rc : Nat) (w1 : Nat → Nat) (w2 : Nat → Nat) (w3 : Nat → Nat) (rg : Nat → Prop) (rk : Nat) (kc : Nat → Nat) (kf : Nat → Prop) (kp : Nat → Int64) (rest : va_W) (i : Nat) (j : Nat) (vx : Int32) (vy : Int32) (g12 : rn ≤ 12) (gN : ∀ i, i < rn → ec_near (rx i) ∧ ec_near (ry i)) (hi : i < rn) (hj : j < rn) (hvx : ec_near vx) (hvy : ec_near vy) : Met l y_R_on (Cond.code y_R_on b_R_on 9 (some .boolean) :: ec_tbl) ({ frames := 2, cells := 0, slots := 0, locals := 57 }) (va_Pc [.ref (a 0), .int (nI i), .int (nI j), .long vx.toInt64, .long vy.toInt64] (fun U => va_P (dC, dI) vwCl (wR a cI cZ cJ rn rx ry rl rf rt rh gx gy rc w1 w2 w3 rg rk kc kf kp ++ rest) U.heap ∧ va_K (dC, dI) vwCl (ec_tys cI cZ cJ) U)) (vp_Si (fun r : Int32 => ec_isB r (ec_on (rx i).toInt (ry i).toInt (rx j).toInt (ry j).toInt vx.toInt vy.toInt))) 0 0 (fun _ => False) := by
  refine Met.ofW (cc := b_R_on) (maxL := 9) (ret := (some .boolean)) (by decide) rfl ?_
  intro p e s m args below meth c s₁ B hml hv0
  obtain ⟨rfl, hP, hK⟩ := hv0
  have hx := B.exec
  have hb := B.bytes
  have hr := B.returns
  have hts := atoms_spec (ws := (Cond.code y_R_on b_R_on 9 (some .boolean) :: ec_tbl)) B.pre
  have htb : ∀ w ∈ ec_tbl, w.before _ s = true := fun w h => hts w (List.mem_cons_of_mem _ h)
  clear hts
  have hown : s.vm.findClass "ExactMeshModel" = some m.cls := findClass_of_methodNamed B.named
  have hlocks := B.notSynchronized
  have hl := lv_entry ([.ref (a 0), .int (nI i), .int (nI j), .long vx.toInt64, .long vy.toInt64]) (n := 9) (Nat.le_of_ble_eq_true rfl)
  rw [lg_entry_eq]
  generalize (lg_sl ([.ref (a 0), .int (nI i), .int (nI j), .long vx.toInt64, .long vy.toInt64]) ++ List.replicate (9 - (lg_sl ([.ref (a 0), .int (nI i), .int (nI j), .long vx.toInt64, .long vy.toInt64])).length) Slot.unset).toArray = ls at hl ⊢
  replace hl : lv_has ls 9 [(0, .ref (a 0)), (1, .int (nI i)), (2, .int (nI j)), (3, .long vx.toInt64), (5, .long vy.toInt64)] := hl
  refine lv_aload_n hx hb d_R_on_0 rfl (lv_at hl 0 rfl) ?_
  refine va_get (D := (dC, dI)) (ci := 5) (v := .ref (a 1)) (C := R_R) (T := T_R) (N := 18) hx hb htb in_R hown hK hP 0 rfl rfl 1 (by decide) (htb _ wd_450) (fun _ h9 => h9) rfl d_R_on_1 ?_
  refine lv_iload_n hx hb d_R_on_4 rfl (lv_at hl 1 rfl) ?_
  refine ec_iald (f := rx) (i := i) hx hb hK hP 1 0 rfl rfl (by omega) (by decide) d_R_on_5 ?_
  refine lv_i2l hx hb d_R_on_6 rfl ?_
  refine lv_lload_n hx hb d_R_on_7 rfl (lv_at hl 3 rfl) ?_
  refine lv_lsub hx hb d_R_on_8 ?_
  refine lv_aload_n hx hb d_R_on_9 rfl (lv_at hl 0 rfl) ?_
  refine va_get (D := (dC, dI)) (ci := 5) (v := .ref (a 1)) (C := R_R) (T := T_R) (N := 18) hx hb htb in_R hown hK hP 0 rfl rfl 1 (by decide) (htb _ wd_450) (fun _ h9 => h9) rfl d_R_on_10 ?_
  refine lv_iload_n hx hb d_R_on_13 rfl (lv_at hl 2 rfl) ?_
  refine ec_iald (f := rx) (i := j) hx hb hK hP 1 0 rfl rfl (by omega) (by decide) d_R_on_14 ?_
  refine lv_i2l hx hb d_R_on_15 rfl ?_
  refine lv_lload_n hx hb d_R_on_16 rfl (lv_at hl 3 rfl) ?_
  refine lv_lsub hx hb d_R_on_17 ?_
  refine lv_lmul hx hb d_R_on_18 ?_
  refine lv_aload_n hx hb d_R_on_19 rfl (lv_at hl 0 rfl) ?_
  refine va_get (D := (dC, dI)) (ci := 5) (v := .ref (a 2)) (C := R_R) (T := T_R) (N := 18) hx hb htb in_R hown hK hP 0 rfl rfl 2 (by decide) (htb _ wd_451) (fun _ h9 => h9) rfl d_R_on_20 ?_
  refine lv_iload_n hx hb d_R_on_23 rfl (lv_at hl 1 rfl) ?_
  refine ec_iald (f := ry) (i := i) hx hb hK hP 2 0 rfl rfl (by omega) (by decide) d_R_on_24 ?_
  refine lv_i2l hx hb d_R_on_25 rfl ?_
  refine lv_lload hx hb d_R_on_26 (lv_at hl 4 rfl) ?_
  refine lv_lsub hx hb d_R_on_28 ?_
  refine lv_aload_n hx hb d_R_on_29 rfl (lv_at hl 0 rfl) ?_
  refine va_get (D := (dC, dI)) (ci := 5) (v := .ref (a 2)) (C := R_R) (T := T_R) (N := 18) hx hb htb in_R hown hK hP 0 rfl rfl 2 (by decide) (htb _ wd_451) (fun _ h9 => h9) rfl d_R_on_30 ?_
  refine lv_iload_n hx hb d_R_on_33 rfl (lv_at hl 2 rfl) ?_
  refine ec_iald (f := ry) (i := j) hx hb hK hP 2 0 rfl rfl (by omega) (by decide) d_R_on_34 ?_
  refine lv_i2l hx hb d_R_on_35 rfl ?_
  refine lv_lload hx hb d_R_on_36 (lv_at hl 4 rfl) ?_
  refine lv_lsub hx hb d_R_on_38 ?_
  refine lv_lmul hx hb d_R_on_39 ?_
  refine lv_ladd hx hb d_R_on_40 ?_
  refine lv_topl (fun v1 e_v1 => ?_)
  refine lv_lstore hx hb d_R_on_41 hl (by decide) rfl (fun ls hl => ?_)
  replace hl : lv_has ls 9 [(7, .long v1), (0, .ref (a 0)), (1, .int (nI i)), (2, .int (nI j)), (3, .long vx.toInt64), (5, .long vy.toInt64)] := hl
  have hdot : v1.toInt = ((rx i).toInt - vx.toInt) * ((rx j).toInt - vx.toInt) + ((ry i).toInt - vy.toInt) * ((ry j).toInt - vy.toInt) := by rw [e_v1]; exact ec_onR (gN i hi).1 (gN i hi).2 (gN j hj).1 (gN j hj).2 hvx hvy
  refine lv_aload_n hx hb d_R_on_43 rfl (lv_at hl 1 rfl) ?_
  refine lv_iload_n hx hb d_R_on_44 rfl (lv_at hl 2 rfl) ?_
  refine lv_iload_n hx hb d_R_on_45 rfl (lv_at hl 3 rfl) ?_
  refine lv_lload_n hx hb d_R_on_46 rfl (lv_at hl 4 rfl) ?_
  refine lv_lload hx hb d_R_on_47 (lv_at hl 5 rfl) ?_
  refine ec_vSl (C := "ExactMeshModel") (ci := 5) (q := (R_R, T_R, 18)) (q0 := 0) (As := [.int (nI i), .int (nI j), .long vx.toInt64, .long vy.toInt64]) (rest := []) ⟨hx, hb, hml, hown, htb⟩ (c_R_side l dC dI a cI cZ cJ rn rx ry rl rf rt rh gx gy rc w1 w2 w3 rg rk kc kf kp rest i j vx vy g12 gN (by omega) (by omega)) kv_R_side hK hP rfl rfl rfl wd_518 ⟨Nat.le_of_ble_eq_true rfl, Nat.le_of_ble_eq_true rfl⟩ ⟨rfl, rfl⟩ rfl hl.1 rfl (Nat.le_of_ble_eq_true rfl) d_R_on_49 ⟨Nat.zero_le _, Nat.zero_le _⟩ (fun r49 hr49 => ?_)
  replace hr49 : r49.toInt = ec_lf (rx i).toInt (ry i).toInt (rx j).toInt (ry j).toInt vx.toInt vy.toInt := hr49
  refine lv_lconst (v := 0) hx hb d_R_on_52 (by decide) ?_
  refine W.lcmp hx hb d_R_on_53 ?_
  refine lv_if_ne (tgt := 68) hx hb d_R_on_54 rfl (fun h54 => ?_) (fun h54 => ?_)
  · rw [lg_cmp_eq] at h54
    refine lv_iconst (v := nI 0) hx hb d_R_on_68 (by decide) ?_
    exact W.zret hx hb hr rfl (fun tS ht hW => ⟨_, rfl, (ec_isB.f0 (fun q => h54 (by rw [ec_eq0, hr49]; exact q.1))), ht⟩) (fun _ h => nomatch h) d_R_on_69
  · rw [lg_cmp_eq] at h54
    refine lv_lload hx hb d_R_on_57 (lv_at hl 0 rfl) ?_
    refine lv_lconst (v := 0) hx hb d_R_on_59 (by decide) ?_
    refine W.lcmp hx hb d_R_on_60 ?_
    refine lv_if_gt (tgt := 68) hx hb d_R_on_61 rfl (fun h61 => ?_) (fun h61 => ?_)
    · rw [lg_cmp_gt] at h61
      refine lv_iconst (v := nI 0) hx hb d_R_on_68 (by decide) ?_
      exact W.zret hx hb hr rfl (fun tS ht hW => ⟨_, rfl, (ec_isB.f0 (fun q => by have z := ((ec_on_dot _ _ _ _ _ _).mp q).2; rw [← hdot] at z; rw [Int64.lt_iff_toInt_lt, ec_L0] at h61; omega)), ht⟩) (fun _ h => nomatch h) d_R_on_69
    · rw [lg_cmp_gt] at h61
      refine lv_iconst (v := nI 1) hx hb d_R_on_64 (by decide) ?_
      refine lv_goto (tgt := 69) hx hb d_R_on_65 rfl ?_
      exact W.zret hx hb hr rfl (fun tS ht hW => ⟨_, rfl, (ec_isB.t1 ((ec_on_dot _ _ _ _ _ _).mpr ⟨by rw [ec_eq0, hr49] at h54; exact h54, by rw [← hdot]; rw [Int64.lt_iff_toInt_lt, ec_L0] at h61; omega⟩)), ht⟩) (fun _ h => nomatch h) d_R_on_69

set_option maxRecDepth 100000 in
set_option maxHeartbeats 4000000 in
theorem c_R_crosses (l : Launch) (dC : Nat → ClassId) (dI : Nat → Nat → Nat) (a : Nat → Nat) (cI cZ cJ : ClassId) (rn : Nat) (rx : Nat → Int32) (ry : Nat → Int32) (rl : Nat) (rf : Nat → Nat) (rt : Nat → Nat) (rh : Nat) (gx : Nat → Int32) (gy : Nat → Int32) (rc : Nat) (w1 : Nat → Nat) (w2 : Nat → Nat) (w3 : Nat → Nat) (rg : Nat → Prop) (rk : Nat) (kc : Nat → Nat) (kf : Nat → Prop) (kp : Nat → Int64) (rest : va_W) (i : Nat) (j : Nat) (k : Nat) (i4 : Nat) (g12 : rn ≤ 12) (gN : ∀ i, i < rn → ec_near (rx i) ∧ ec_near (ry i)) (hi : i < rn) (hj : j < rn) (hk : k < rn) (hi4 : i4 < rn) : Met l y_R_crosses (Cond.code y_R_crosses b_R_crosses 5 (some .boolean) :: ec_tbl) ({ frames := 2, cells := 0, slots := 0, locals := 54 }) (va_Pc [.ref (a 0), .int (nI i), .int (nI j), .int (nI k), .int (nI i4)] (fun U => va_P (dC, dI) vwCl (wR a cI cZ cJ rn rx ry rl rf rt rh gx gy rc w1 w2 w3 rg rk kc kf kp ++ rest) U.heap ∧ va_K (dC, dI) vwCl (ec_tys cI cZ cJ) U)) (vp_Si (fun r : Int32 => ec_isB r (ge_Cr (ec_P rx ry i) (ec_P rx ry j) (ec_P rx ry k) (ec_P rx ry i4)))) 0 0 (fun _ => False) := by
  refine Met.ofW (cc := b_R_crosses) (maxL := 5) (ret := (some .boolean)) (by decide) rfl ?_
  intro p e s m args below meth c s₁ B hml hv0
  obtain ⟨rfl, hP, hK⟩ := hv0
  have hx := B.exec
  have hb := B.bytes
  have hr := B.returns
  have hts := atoms_spec (ws := (Cond.code y_R_crosses b_R_crosses 5 (some .boolean) :: ec_tbl)) B.pre
  have htb : ∀ w ∈ ec_tbl, w.before _ s = true := fun w h => hts w (List.mem_cons_of_mem _ h)
  clear hts
  have hown : s.vm.findClass "ExactMeshModel" = some m.cls := findClass_of_methodNamed B.named
  have hlocks := B.notSynchronized
  have hl := lv_entry ([.ref (a 0), .int (nI i), .int (nI j), .int (nI k), .int (nI i4)]) (n := 5) (Nat.le_of_ble_eq_true rfl)
  rw [lg_entry_eq]
  generalize (lg_sl ([.ref (a 0), .int (nI i), .int (nI j), .int (nI k), .int (nI i4)]) ++ List.replicate (5 - (lg_sl ([.ref (a 0), .int (nI i), .int (nI j), .int (nI k), .int (nI i4)])).length) Slot.unset).toArray = ls at hl ⊢
  replace hl : lv_has ls 5 [(0, .ref (a 0)), (1, .int (nI i)), (2, .int (nI j)), (3, .int (nI k)), (4, .int (nI i4))] := hl
  refine lv_aload_n hx hb d_R_crosses_0 rfl (lv_at hl 0 rfl) ?_
  refine lv_iload_n hx hb d_R_crosses_1 rfl (lv_at hl 1 rfl) ?_
  refine lv_iload_n hx hb d_R_crosses_2 rfl (lv_at hl 2 rfl) ?_
  refine lv_iload_n hx hb d_R_crosses_3 rfl (lv_at hl 3 rfl) ?_
  refine ec_vSl (C := "ExactMeshModel") (ci := 5) (q := (R_R, T_R, 18)) (q0 := 0) (As := [.int (nI i), .int (nI j), .int (nI k)]) (rest := []) ⟨hx, hb, hml, hown, htb⟩ (c_R_of l dC dI a cI cZ cJ rn rx ry rl rf rt rh gx gy rc w1 w2 w3 rg rk kc kf kp rest i j k g12 gN (by omega) (by omega) (by omega)) kv_R_of hK hP rfl rfl rfl wd_541 ⟨Nat.le_of_ble_eq_true rfl, Nat.le_of_ble_eq_true rfl⟩ ⟨rfl, rfl⟩ rfl hl.1 rfl (Nat.le_of_ble_eq_true rfl) d_R_crosses_4 ⟨Nat.zero_le _, Nat.zero_le _⟩ (fun r4 hr4 => ?_)
  replace hr4 : r4.toInt = ge_ori (ec_P rx ry i) (ec_P rx ry j) (ec_P rx ry k) := hr4
  refine ec_sTSi (As := [.long r4]) (rest := []) ⟨hx, hb, hml, hown, htb⟩ (c_R_sign l r4) ks_R_sign wd_545 ⟨Nat.le_of_ble_eq_true rfl, Nat.le_of_ble_eq_true rfl⟩ ⟨rfl, rfl⟩ rfl hl.1 rfl (Nat.le_of_ble_eq_true rfl) d_R_crosses_7 ⟨Nat.zero_le _, Nat.zero_le _⟩ (fun r7 hr7 => ?_)
  replace hr7 : r7 = ec_sgn r4.toInt := hr7
  subst hr7
  rw [hr4]
  refine lv_aload_n hx hb d_R_crosses_10 rfl (lv_at hl 0 rfl) ?_
  refine lv_iload_n hx hb d_R_crosses_11 rfl (lv_at hl 1 rfl) ?_
  refine lv_iload_n hx hb d_R_crosses_12 rfl (lv_at hl 2 rfl) ?_
  refine lv_iload hx hb d_R_crosses_13 (lv_at hl 4 rfl) ?_
  refine ec_vSl (C := "ExactMeshModel") (ci := 5) (q := (R_R, T_R, 18)) (q0 := 0) (As := [.int (nI i), .int (nI j), .int (nI i4)]) (rest := [.int (ec_sgn (ge_ori (ec_P rx ry i) (ec_P rx ry j) (ec_P rx ry k)))]) ⟨hx, hb, hml, hown, htb⟩ (c_R_of l dC dI a cI cZ cJ rn rx ry rl rf rt rh gx gy rc w1 w2 w3 rg rk kc kf kp rest i j i4 g12 gN (by omega) (by omega) (by omega)) kv_R_of hK hP rfl rfl rfl wd_541 ⟨Nat.le_of_ble_eq_true rfl, Nat.le_of_ble_eq_true rfl⟩ ⟨rfl, rfl⟩ rfl hl.1 rfl (Nat.le_of_ble_eq_true rfl) d_R_crosses_15 ⟨Nat.zero_le _, Nat.zero_le _⟩ (fun r15 hr15 => ?_)
  replace hr15 : r15.toInt = ge_ori (ec_P rx ry i) (ec_P rx ry j) (ec_P rx ry i4) := hr15
  refine ec_sTSi (As := [.long r15]) (rest := [.int (ec_sgn (ge_ori (ec_P rx ry i) (ec_P rx ry j) (ec_P rx ry k)))]) ⟨hx, hb, hml, hown, htb⟩ (c_R_sign l r15) ks_R_sign wd_545 ⟨Nat.le_of_ble_eq_true rfl, Nat.le_of_ble_eq_true rfl⟩ ⟨rfl, rfl⟩ rfl hl.1 rfl (Nat.le_of_ble_eq_true rfl) d_R_crosses_18 ⟨Nat.zero_le _, Nat.zero_le _⟩ (fun r18 hr18 => ?_)
  replace hr18 : r18 = ec_sgn r15.toInt := hr18
  subst hr18
  rw [hr15]
  refine lv_imul hx hb d_R_crosses_21 ?_
  refine lv_if_ge (tgt := 55) hx hb d_R_crosses_22 rfl (fun h22 => ?_) (fun h22 => ?_)
  · refine lv_iconst (v := nI 0) hx hb d_R_crosses_55 (by decide) ?_
    exact W.zret hx hb hr rfl (fun tS ht hW => ⟨_, rfl, (ec_isB.f0 (fun q => ec_mul_ge h22 q.1)), ht⟩) (fun _ h => nomatch h) d_R_crosses_56
  · refine lv_aload_n hx hb d_R_crosses_25 rfl (lv_at hl 0 rfl) ?_
    refine lv_iload_n hx hb d_R_crosses_26 rfl (lv_at hl 3 rfl) ?_
    refine lv_iload hx hb d_R_crosses_27 (lv_at hl 4 rfl) ?_
    refine lv_iload_n hx hb d_R_crosses_29 rfl (lv_at hl 1 rfl) ?_
    refine ec_vSl (C := "ExactMeshModel") (ci := 5) (q := (R_R, T_R, 18)) (q0 := 0) (As := [.int (nI k), .int (nI i4), .int (nI i)]) (rest := []) ⟨hx, hb, hml, hown, htb⟩ (c_R_of l dC dI a cI cZ cJ rn rx ry rl rf rt rh gx gy rc w1 w2 w3 rg rk kc kf kp rest k i4 i g12 gN (by omega) (by omega) (by omega)) kv_R_of hK hP rfl rfl rfl wd_541 ⟨Nat.le_of_ble_eq_true rfl, Nat.le_of_ble_eq_true rfl⟩ ⟨rfl, rfl⟩ rfl hl.1 rfl (Nat.le_of_ble_eq_true rfl) d_R_crosses_30 ⟨Nat.zero_le _, Nat.zero_le _⟩ (fun r30 hr30 => ?_)
    replace hr30 : r30.toInt = ge_ori (ec_P rx ry k) (ec_P rx ry i4) (ec_P rx ry i) := hr30
    refine ec_sTSi (As := [.long r30]) (rest := []) ⟨hx, hb, hml, hown, htb⟩ (c_R_sign l r30) ks_R_sign wd_545 ⟨Nat.le_of_ble_eq_true rfl, Nat.le_of_ble_eq_true rfl⟩ ⟨rfl, rfl⟩ rfl hl.1 rfl (Nat.le_of_ble_eq_true rfl) d_R_crosses_33 ⟨Nat.zero_le _, Nat.zero_le _⟩ (fun r33 hr33 => ?_)
    replace hr33 : r33 = ec_sgn r30.toInt := hr33
    subst hr33
    rw [hr30]
    refine lv_aload_n hx hb d_R_crosses_36 rfl (lv_at hl 0 rfl) ?_
    refine lv_iload_n hx hb d_R_crosses_37 rfl (lv_at hl 3 rfl) ?_
    refine lv_iload hx hb d_R_crosses_38 (lv_at hl 4 rfl) ?_
    refine lv_iload_n hx hb d_R_crosses_40 rfl (lv_at hl 2 rfl) ?_
    refine ec_vSl (C := "ExactMeshModel") (ci := 5) (q := (R_R, T_R, 18)) (q0 := 0) (As := [.int (nI k), .int (nI i4), .int (nI j)]) (rest := [.int (ec_sgn (ge_ori (ec_P rx ry k) (ec_P rx ry i4) (ec_P rx ry i)))]) ⟨hx, hb, hml, hown, htb⟩ (c_R_of l dC dI a cI cZ cJ rn rx ry rl rf rt rh gx gy rc w1 w2 w3 rg rk kc kf kp rest k i4 j g12 gN (by omega) (by omega) (by omega)) kv_R_of hK hP rfl rfl rfl wd_541 ⟨Nat.le_of_ble_eq_true rfl, Nat.le_of_ble_eq_true rfl⟩ ⟨rfl, rfl⟩ rfl hl.1 rfl (Nat.le_of_ble_eq_true rfl) d_R_crosses_41 ⟨Nat.zero_le _, Nat.zero_le _⟩ (fun r41 hr41 => ?_)
    replace hr41 : r41.toInt = ge_ori (ec_P rx ry k) (ec_P rx ry i4) (ec_P rx ry j) := hr41
    refine ec_sTSi (As := [.long r41]) (rest := [.int (ec_sgn (ge_ori (ec_P rx ry k) (ec_P rx ry i4) (ec_P rx ry i)))]) ⟨hx, hb, hml, hown, htb⟩ (c_R_sign l r41) ks_R_sign wd_545 ⟨Nat.le_of_ble_eq_true rfl, Nat.le_of_ble_eq_true rfl⟩ ⟨rfl, rfl⟩ rfl hl.1 rfl (Nat.le_of_ble_eq_true rfl) d_R_crosses_44 ⟨Nat.zero_le _, Nat.zero_le _⟩ (fun r44 hr44 => ?_)
    replace hr44 : r44 = ec_sgn r41.toInt := hr44
    subst hr44
    rw [hr41]
    refine lv_imul hx hb d_R_crosses_47 ?_
    refine lv_if_ge (tgt := 55) hx hb d_R_crosses_48 rfl (fun h48 => ?_) (fun h48 => ?_)
    · refine lv_iconst (v := nI 0) hx hb d_R_crosses_55 (by decide) ?_
      exact W.zret hx hb hr rfl (fun tS ht hW => ⟨_, rfl, (ec_isB.f0 (fun q => ec_mul_ge h48 q.2)), ht⟩) (fun _ h => nomatch h) d_R_crosses_56
    · refine lv_iconst (v := nI 1) hx hb d_R_crosses_51 (by decide) ?_
      refine lv_goto (tgt := 56) hx hb d_R_crosses_52 rfl ?_
      exact W.zret hx hb hr rfl (fun tS ht hW => ⟨_, rfl, (ec_isB.t1 ⟨ec_mul_lt h22, ec_mul_lt h48⟩), ht⟩) (fun _ h => nomatch h) d_R_crosses_56

set_option maxRecDepth 100000 in
set_option maxHeartbeats 4000000 in
theorem c_R_isLine (l : Launch) (dC : Nat → ClassId) (dI : Nat → Nat → Nat) (a : Nat → Nat) (cI cZ cJ : ClassId) (rn : Nat) (rx : Nat → Int32) (ry : Nat → Int32) (rl : Nat) (rf : Nat → Nat) (rt : Nat → Nat) (rh : Nat) (gx : Nat → Int32) (gy : Nat → Int32) (rc : Nat) (w1 : Nat → Nat) (w2 : Nat → Nat) (w3 : Nat → Nat) (rg : Nat → Prop) (rk : Nat) (kc : Nat → Nat) (kf : Nat → Prop) (kp : Nat → Int64) (rest : va_W) (i : Nat) (j : Nat) (g12 : rn ≤ 12) (grl : rl ≤ 10) (gll : ∀ i, i < rl → rf i < rn ∧ rt i < rn) (hi : i < rn) (hj : j < rn) : Met l y_R_isLine (Cond.code y_R_isLine b_R_isLine 5 (some .boolean) :: ec_tbl) ({ frames := 0, cells := 0, slots := 0, locals := 0 }) (va_Pc [.ref (a 0), .int (nI i), .int (nI j)] (fun U => va_P (dC, dI) vwCl (wR a cI cZ cJ rn rx ry rl rf rt rh gx gy rc w1 w2 w3 rg rk kc kf kp ++ rest) U.heap ∧ va_K (dC, dI) vwCl (ec_tys cI cZ cJ) U)) (vp_Si (fun r : Int32 => ec_isB r (ec_E rl rf rt i j))) 0 0 (fun _ => False) := by
  refine Met.ofW (cc := b_R_isLine) (maxL := 5) (ret := (some .boolean)) (by decide) rfl ?_
  intro p e s m args below meth c s₁ B hml hv0
  obtain ⟨rfl, hP, hK⟩ := hv0
  have hx := B.exec
  have hb := B.bytes
  have hr := B.returns
  have hts := atoms_spec (ws := (Cond.code y_R_isLine b_R_isLine 5 (some .boolean) :: ec_tbl)) B.pre
  have htb : ∀ w ∈ ec_tbl, w.before _ s = true := fun w h => hts w (List.mem_cons_of_mem _ h)
  clear hts
  have hown : s.vm.findClass "ExactMeshModel" = some m.cls := findClass_of_methodNamed B.named
  have hlocks := B.notSynchronized
  have hl := lv_entry ([.ref (a 0), .int (nI i), .int (nI j)]) (n := 5) (Nat.le_of_ble_eq_true rfl)
  rw [lg_entry_eq]
  generalize (lg_sl ([.ref (a 0), .int (nI i), .int (nI j)]) ++ List.replicate (5 - (lg_sl ([.ref (a 0), .int (nI i), .int (nI j)])).length) Slot.unset).toArray = ls at hl ⊢
  replace hl : lv_has ls 5 [(0, .ref (a 0)), (1, .int (nI i)), (2, .int (nI j))] := hl
  refine lv_iconst (v := nI 0) hx hb d_R_isLine_0 (by decide) ?_
  refine lv_istore_n hx hb d_R_isLine_1 rfl hl (by decide) rfl (fun ls hl => ?_)
  replace hl : lv_has ls 5 [(3, .int (nI 0)), (0, .ref (a 0)), (1, .int (nI i)), (2, .int (nI j))] := hl
  refine lv_iconst (v := nI 0) hx hb d_R_isLine_2 (by decide) ?_
  refine lv_istore hx hb d_R_isLine_3 hl (by decide) rfl (fun ls hl => ?_)
  replace hl : lv_has ls 5 [(4, .int (nI 0)), (3, .int (nI 0)), (0, .ref (a 0)), (1, .int (nI i)), (2, .int (nI j))] := hl
  obtain ⟨t, e_t⟩ : ∃ z : Nat, z = 0 := ⟨_, rfl⟩
  obtain ⟨f, e_f⟩ : ∃ z : Nat, z = 0 := ⟨_, rfl⟩
  replace hl : lv_has ls 5 [(0, .ref (a 0)), (1, .int (nI i)), (2, .int (nI j)), (3, .int (nI f)), (4, .int (nI t))] := by (try simp only [e_t, e_f]); exact lv_sub hl [2, 3, 4, 1, 0] rfl
  have hle : t ≤ rl := by omega
  have hf : f ≤ 1 := by omega
  have hI : (f = 0 → ¬ ec_E t rf rt i j) ∧ (¬ f = 0 → ec_E t rf rt i j) := by rw [e_t, e_f]; exact ⟨fun _ => ec_E_none, fun q => absurd rfl q⟩
  clear e_f e_t
  generalize hk5 : rl - t = k5
  induction k5 using Nat.strongRecOn generalizing t f ls with
  | ind k5 ih5 =>
  refine lv_iload hx hb d_R_isLine_5 (lv_at hl 4 rfl) ?_
  refine lv_aload_n hx hb d_R_isLine_7 rfl (lv_at hl 0 rfl) ?_
  refine va_get (D := (dC, dI)) (ci := 5) (v := .int (nI rl)) (C := R_R) (T := T_R) (N := 18) hx hb htb in_R hown hK hP 0 rfl rfl 3 (by decide) (htb _ wd_452) (fun _ h9 => h9) rfl d_R_isLine_8 ?_
  refine ec_icmp_ge (tgt := 74) hx hb d_R_isLine_11 rfl (by omega) (by omega) (fun h11 => ?_) (fun h11 => ?_)
  · refine lv_iload_n hx hb d_R_isLine_74 rfl (lv_at hl 3 rfl) ?_
    exact W.zret hx hb hr (ec_nar01 hf) (fun tS ht hW => ⟨_, rfl, (by rw [show t = rl by omega] at hI; exact ec_isB_n hf hI), ht⟩) (fun _ h => nomatch h) d_R_isLine_75
  · have q0 := gll t (by omega)
    refine lv_iload_n hx hb d_R_isLine_14 rfl (lv_at hl 3 rfl) ?_
    refine ec_if_ne (tgt := 62) hx hb d_R_isLine_15 rfl (by omega) (fun h15 => ?_) (fun h15 => ?_)
    · refine lv_iconst (v := nI 1) hx hb d_R_isLine_62 (by decide) ?_
      refine lv_goto (tgt := 67) hx hb d_R_isLine_63 rfl ?_
      refine lv_istore_n hx hb d_R_isLine_67 rfl hl (by decide) rfl (fun ls hl => ?_)
      replace hl : lv_has ls 5 [(3, .int (nI 1)), (0, .ref (a 0)), (1, .int (nI i)), (2, .int (nI j)), (4, .int (nI t))] := hl
      refine ec_iinc (k := 4) hx hb d_R_isLine_68 hl rfl (by decide) rfl (fun ls hl => ?_)
      replace hl : lv_has ls 5 [(4, .int (nI (t + 1))), (3, .int (nI 1)), (0, .ref (a 0)), (1, .int (nI i)), (2, .int (nI j))] := hl
      refine lv_goto (tgt := 5) hx hb d_R_isLine_71 rfl ?_
      exact ih5 _ (by omega) (t := t + 1) (f := 1) (ls := ls) (hl := lv_sub hl [2, 3, 4, 1, 0] rfl) (hle := (by omega)) (hf := (by omega)) (hI := ⟨fun q => absurd q (by decide), fun _ => ec_E_s.mpr (Or.inl (hI.2 h15))⟩) (hk5 := rfl)
    · refine lv_aload_n hx hb d_R_isLine_18 rfl (lv_at hl 0 rfl) ?_
      refine va_get (D := (dC, dI)) (ci := 5) (v := .ref (a 3)) (C := R_R) (T := T_R) (N := 18) hx hb htb in_R hown hK hP 0 rfl rfl 4 (by decide) (htb _ wd_453) (fun _ h9 => h9) rfl d_R_isLine_19 ?_
      refine lv_iload hx hb d_R_isLine_22 (lv_at hl 4 rfl) ?_
      refine ec_ialdN (f := rf) (i := t) hx hb hK hP 3 0 rfl rfl (by omega) (by decide) d_R_isLine_24 ?_
      refine lv_iload_n hx hb d_R_isLine_25 rfl (lv_at hl 1 rfl) ?_
      refine ec_icmp_ne (tgt := 40) hx hb d_R_isLine_26 rfl (by omega) (by omega) (fun h26 => ?_) (fun h26 => ?_)
      · refine lv_aload_n hx hb d_R_isLine_40 rfl (lv_at hl 0 rfl) ?_
        refine va_get (D := (dC, dI)) (ci := 5) (v := .ref (a 3)) (C := R_R) (T := T_R) (N := 18) hx hb htb in_R hown hK hP 0 rfl rfl 4 (by decide) (htb _ wd_453) (fun _ h9 => h9) rfl d_R_isLine_41 ?_
        refine lv_iload hx hb d_R_isLine_44 (lv_at hl 4 rfl) ?_
        refine ec_ialdN (f := rf) (i := t) hx hb hK hP 3 0 rfl rfl (by omega) (by decide) d_R_isLine_46 ?_
        refine lv_iload_n hx hb d_R_isLine_47 rfl (lv_at hl 2 rfl) ?_
        refine ec_icmp_ne (tgt := 66) hx hb d_R_isLine_48 rfl (by omega) (by omega) (fun h48 => ?_) (fun h48 => ?_)
        · refine lv_iconst (v := nI 0) hx hb d_R_isLine_66 (by decide) ?_
          refine lv_istore_n hx hb d_R_isLine_67 rfl hl (by decide) rfl (fun ls hl => ?_)
          replace hl : lv_has ls 5 [(3, .int (nI 0)), (0, .ref (a 0)), (1, .int (nI i)), (2, .int (nI j)), (4, .int (nI t))] := hl
          refine ec_iinc (k := 4) hx hb d_R_isLine_68 hl rfl (by decide) rfl (fun ls hl => ?_)
          replace hl : lv_has ls 5 [(4, .int (nI (t + 1))), (3, .int (nI 0)), (0, .ref (a 0)), (1, .int (nI i)), (2, .int (nI j))] := hl
          refine lv_goto (tgt := 5) hx hb d_R_isLine_71 rfl ?_
          exact ih5 _ (by omega) (t := t + 1) (f := 0) (ls := ls) (hl := lv_sub hl [2, 3, 4, 1, 0] rfl) (hle := (by omega)) (hf := (by omega)) (hI := ⟨fun _ q => by rcases ec_E_s.mp q with q | q; exact hI.1 h15 q; omega, fun q => absurd rfl q⟩) (hk5 := rfl)
        · refine lv_aload_n hx hb d_R_isLine_51 rfl (lv_at hl 0 rfl) ?_
          refine va_get (D := (dC, dI)) (ci := 5) (v := .ref (a 4)) (C := R_R) (T := T_R) (N := 18) hx hb htb in_R hown hK hP 0 rfl rfl 5 (by decide) (htb _ wd_454) (fun _ h9 => h9) rfl d_R_isLine_52 ?_
          refine lv_iload hx hb d_R_isLine_55 (lv_at hl 4 rfl) ?_
          refine ec_ialdN (f := rt) (i := t) hx hb hK hP 4 0 rfl rfl (by omega) (by decide) d_R_isLine_57 ?_
          refine lv_iload_n hx hb d_R_isLine_58 rfl (lv_at hl 1 rfl) ?_
          refine ec_icmp_ne (tgt := 66) hx hb d_R_isLine_59 rfl (by omega) (by omega) (fun h59 => ?_) (fun h59 => ?_)
          · refine lv_iconst (v := nI 0) hx hb d_R_isLine_66 (by decide) ?_
            refine lv_istore_n hx hb d_R_isLine_67 rfl hl (by decide) rfl (fun ls hl => ?_)
            replace hl : lv_has ls 5 [(3, .int (nI 0)), (0, .ref (a 0)), (1, .int (nI i)), (2, .int (nI j)), (4, .int (nI t))] := hl
            refine ec_iinc (k := 4) hx hb d_R_isLine_68 hl rfl (by decide) rfl (fun ls hl => ?_)
            replace hl : lv_has ls 5 [(4, .int (nI (t + 1))), (3, .int (nI 0)), (0, .ref (a 0)), (1, .int (nI i)), (2, .int (nI j))] := hl
            refine lv_goto (tgt := 5) hx hb d_R_isLine_71 rfl ?_
            exact ih5 _ (by omega) (t := t + 1) (f := 0) (ls := ls) (hl := lv_sub hl [2, 3, 4, 1, 0] rfl) (hle := (by omega)) (hf := (by omega)) (hI := ⟨fun _ q => by rcases ec_E_s.mp q with q | q; exact hI.1 h15 q; omega, fun q => absurd rfl q⟩) (hk5 := rfl)
          · refine lv_iconst (v := nI 1) hx hb d_R_isLine_62 (by decide) ?_
            refine lv_goto (tgt := 67) hx hb d_R_isLine_63 rfl ?_
            refine lv_istore_n hx hb d_R_isLine_67 rfl hl (by decide) rfl (fun ls hl => ?_)
            replace hl : lv_has ls 5 [(3, .int (nI 1)), (0, .ref (a 0)), (1, .int (nI i)), (2, .int (nI j)), (4, .int (nI t))] := hl
            refine ec_iinc (k := 4) hx hb d_R_isLine_68 hl rfl (by decide) rfl (fun ls hl => ?_)
            replace hl : lv_has ls 5 [(4, .int (nI (t + 1))), (3, .int (nI 1)), (0, .ref (a 0)), (1, .int (nI i)), (2, .int (nI j))] := hl
            refine lv_goto (tgt := 5) hx hb d_R_isLine_71 rfl ?_
            exact ih5 _ (by omega) (t := t + 1) (f := 1) (ls := ls) (hl := lv_sub hl [2, 3, 4, 1, 0] rfl) (hle := (by omega)) (hf := (by omega)) (hI := ⟨fun q => absurd q (by decide), fun _ => ec_E_s.mpr (Or.inr (by omega))⟩) (hk5 := rfl)
      · refine lv_aload_n hx hb d_R_isLine_29 rfl (lv_at hl 0 rfl) ?_
        refine va_get (D := (dC, dI)) (ci := 5) (v := .ref (a 4)) (C := R_R) (T := T_R) (N := 18) hx hb htb in_R hown hK hP 0 rfl rfl 5 (by decide) (htb _ wd_454) (fun _ h9 => h9) rfl d_R_isLine_30 ?_
        refine lv_iload hx hb d_R_isLine_33 (lv_at hl 4 rfl) ?_
        refine ec_ialdN (f := rt) (i := t) hx hb hK hP 4 0 rfl rfl (by omega) (by decide) d_R_isLine_35 ?_
        refine lv_iload_n hx hb d_R_isLine_36 rfl (lv_at hl 2 rfl) ?_
        refine ec_icmp_eq (tgt := 62) hx hb d_R_isLine_37 rfl (by omega) (by omega) (fun h37 => ?_) (fun h37 => ?_)
        · refine lv_iconst (v := nI 1) hx hb d_R_isLine_62 (by decide) ?_
          refine lv_goto (tgt := 67) hx hb d_R_isLine_63 rfl ?_
          refine lv_istore_n hx hb d_R_isLine_67 rfl hl (by decide) rfl (fun ls hl => ?_)
          replace hl : lv_has ls 5 [(3, .int (nI 1)), (0, .ref (a 0)), (1, .int (nI i)), (2, .int (nI j)), (4, .int (nI t))] := hl
          refine ec_iinc (k := 4) hx hb d_R_isLine_68 hl rfl (by decide) rfl (fun ls hl => ?_)
          replace hl : lv_has ls 5 [(4, .int (nI (t + 1))), (3, .int (nI 1)), (0, .ref (a 0)), (1, .int (nI i)), (2, .int (nI j))] := hl
          refine lv_goto (tgt := 5) hx hb d_R_isLine_71 rfl ?_
          exact ih5 _ (by omega) (t := t + 1) (f := 1) (ls := ls) (hl := lv_sub hl [2, 3, 4, 1, 0] rfl) (hle := (by omega)) (hf := (by omega)) (hI := ⟨fun q => absurd q (by decide), fun _ => ec_E_s.mpr (Or.inr (by omega))⟩) (hk5 := rfl)
        · refine lv_aload_n hx hb d_R_isLine_40 rfl (lv_at hl 0 rfl) ?_
          refine va_get (D := (dC, dI)) (ci := 5) (v := .ref (a 3)) (C := R_R) (T := T_R) (N := 18) hx hb htb in_R hown hK hP 0 rfl rfl 4 (by decide) (htb _ wd_453) (fun _ h9 => h9) rfl d_R_isLine_41 ?_
          refine lv_iload hx hb d_R_isLine_44 (lv_at hl 4 rfl) ?_
          refine ec_ialdN (f := rf) (i := t) hx hb hK hP 3 0 rfl rfl (by omega) (by decide) d_R_isLine_46 ?_
          refine lv_iload_n hx hb d_R_isLine_47 rfl (lv_at hl 2 rfl) ?_
          refine ec_icmp_ne (tgt := 66) hx hb d_R_isLine_48 rfl (by omega) (by omega) (fun h48_1 => ?_) (fun h48_1 => ?_)
          · refine lv_iconst (v := nI 0) hx hb d_R_isLine_66 (by decide) ?_
            refine lv_istore_n hx hb d_R_isLine_67 rfl hl (by decide) rfl (fun ls hl => ?_)
            replace hl : lv_has ls 5 [(3, .int (nI 0)), (0, .ref (a 0)), (1, .int (nI i)), (2, .int (nI j)), (4, .int (nI t))] := hl
            refine ec_iinc (k := 4) hx hb d_R_isLine_68 hl rfl (by decide) rfl (fun ls hl => ?_)
            replace hl : lv_has ls 5 [(4, .int (nI (t + 1))), (3, .int (nI 0)), (0, .ref (a 0)), (1, .int (nI i)), (2, .int (nI j))] := hl
            refine lv_goto (tgt := 5) hx hb d_R_isLine_71 rfl ?_
            exact ih5 _ (by omega) (t := t + 1) (f := 0) (ls := ls) (hl := lv_sub hl [2, 3, 4, 1, 0] rfl) (hle := (by omega)) (hf := (by omega)) (hI := ⟨fun _ q => by rcases ec_E_s.mp q with q | q; exact hI.1 h15 q; omega, fun q => absurd rfl q⟩) (hk5 := rfl)
          · refine lv_aload_n hx hb d_R_isLine_51 rfl (lv_at hl 0 rfl) ?_
            refine va_get (D := (dC, dI)) (ci := 5) (v := .ref (a 4)) (C := R_R) (T := T_R) (N := 18) hx hb htb in_R hown hK hP 0 rfl rfl 5 (by decide) (htb _ wd_454) (fun _ h9 => h9) rfl d_R_isLine_52 ?_
            refine lv_iload hx hb d_R_isLine_55 (lv_at hl 4 rfl) ?_
            refine ec_ialdN (f := rt) (i := t) hx hb hK hP 4 0 rfl rfl (by omega) (by decide) d_R_isLine_57 ?_
            refine lv_iload_n hx hb d_R_isLine_58 rfl (lv_at hl 1 rfl) ?_
            refine ec_icmp_ne (tgt := 66) hx hb d_R_isLine_59 rfl (by omega) (by omega) (fun h59_1 => ?_) (fun h59_1 => ?_)
            · refine lv_iconst (v := nI 0) hx hb d_R_isLine_66 (by decide) ?_
              refine lv_istore_n hx hb d_R_isLine_67 rfl hl (by decide) rfl (fun ls hl => ?_)
              replace hl : lv_has ls 5 [(3, .int (nI 0)), (0, .ref (a 0)), (1, .int (nI i)), (2, .int (nI j)), (4, .int (nI t))] := hl
              refine ec_iinc (k := 4) hx hb d_R_isLine_68 hl rfl (by decide) rfl (fun ls hl => ?_)
              replace hl : lv_has ls 5 [(4, .int (nI (t + 1))), (3, .int (nI 0)), (0, .ref (a 0)), (1, .int (nI i)), (2, .int (nI j))] := hl
              refine lv_goto (tgt := 5) hx hb d_R_isLine_71 rfl ?_
              exact ih5 _ (by omega) (t := t + 1) (f := 0) (ls := ls) (hl := lv_sub hl [2, 3, 4, 1, 0] rfl) (hle := (by omega)) (hf := (by omega)) (hI := ⟨fun _ q => by rcases ec_E_s.mp q with q | q; exact hI.1 h15 q; omega, fun q => absurd rfl q⟩) (hk5 := rfl)
            · refine lv_iconst (v := nI 1) hx hb d_R_isLine_62 (by decide) ?_
              refine lv_goto (tgt := 67) hx hb d_R_isLine_63 rfl ?_
              refine lv_istore_n hx hb d_R_isLine_67 rfl hl (by decide) rfl (fun ls hl => ?_)
              replace hl : lv_has ls 5 [(3, .int (nI 1)), (0, .ref (a 0)), (1, .int (nI i)), (2, .int (nI j)), (4, .int (nI t))] := hl
              refine ec_iinc (k := 4) hx hb d_R_isLine_68 hl rfl (by decide) rfl (fun ls hl => ?_)
              replace hl : lv_has ls 5 [(4, .int (nI (t + 1))), (3, .int (nI 1)), (0, .ref (a 0)), (1, .int (nI i)), (2, .int (nI j))] := hl
              refine lv_goto (tgt := 5) hx hb d_R_isLine_71 rfl ?_
              exact ih5 _ (by omega) (t := t + 1) (f := 1) (ls := ls) (hl := lv_sub hl [2, 3, 4, 1, 0] rfl) (hle := (by omega)) (hf := (by omega)) (hI := ⟨fun q => absurd q (by decide), fun _ => ec_E_s.mpr (Or.inr (by omega))⟩) (hk5 := rfl)

set_option maxRecDepth 100000 in
set_option maxHeartbeats 4000000 in
theorem c_R_clear (l : Launch) (dC : Nat → ClassId) (dI : Nat → Nat → Nat) (a : Nat → Nat) (cI cZ cJ : ClassId) (rn : Nat) (rx : Nat → Int32) (ry : Nat → Int32) (rl : Nat) (rf : Nat → Nat) (rt : Nat → Nat) (rh : Nat) (gx : Nat → Int32) (gy : Nat → Int32) (rc : Nat) (w1 : Nat → Nat) (w2 : Nat → Nat) (w3 : Nat → Nat) (rg : Nat → Prop) (rk : Nat) (kc : Nat → Nat) (kf : Nat → Prop) (kp : Nat → Int64) (rest : va_W) (i : Nat) (j : Nat) (k : Nat) (g12 : rn ≤ 12) (gN : ∀ i, i < rn → ec_near (rx i) ∧ ec_near (ry i)) (grl : rl ≤ 10) (gll : ∀ i, i < rl → rf i < rn ∧ rt i < rn) (hi : i < rn) (hj : j < rn) (hk : k < rn) : Met l y_R_clear (Cond.code y_R_clear b_R_clear 6 (some .boolean) :: ec_tbl) ({ frames := 3, cells := 0, slots := 0, locals := 78 }) (va_Pc [.ref (a 0), .int (nI i), .int (nI j), .int (nI k)] (fun U => va_P (dC, dI) vwCl (wR a cI cZ cJ rn rx ry rl rf rt rh gx gy rc w1 w2 w3 rg rk kc kf kp ++ rest) U.heap ∧ va_K (dC, dI) vwCl (ec_tys cI cZ cJ) U)) (vp_Si (fun r : Int32 => ec_isB r (ec_clr rn (ec_P rx ry) (ec_E rl rf rt) i j k))) 0 0 (fun _ => False) := by
  refine Met.ofW (cc := b_R_clear) (maxL := 6) (ret := (some .boolean)) (by decide) rfl ?_
  intro p e s m args below meth c s₁ B hml hv0
  obtain ⟨rfl, hP, hK⟩ := hv0
  have hx := B.exec
  have hb := B.bytes
  have hr := B.returns
  have hts := atoms_spec (ws := (Cond.code y_R_clear b_R_clear 6 (some .boolean) :: ec_tbl)) B.pre
  have htb : ∀ w ∈ ec_tbl, w.before _ s = true := fun w h => hts w (List.mem_cons_of_mem _ h)
  clear hts
  have hown : s.vm.findClass "ExactMeshModel" = some m.cls := findClass_of_methodNamed B.named
  have hlocks := B.notSynchronized
  have hl := lv_entry ([.ref (a 0), .int (nI i), .int (nI j), .int (nI k)]) (n := 6) (Nat.le_of_ble_eq_true rfl)
  rw [lg_entry_eq]
  generalize (lg_sl ([.ref (a 0), .int (nI i), .int (nI j), .int (nI k)]) ++ List.replicate (6 - (lg_sl ([.ref (a 0), .int (nI i), .int (nI j), .int (nI k)])).length) Slot.unset).toArray = ls at hl ⊢
  replace hl : lv_has ls 6 [(0, .ref (a 0)), (1, .int (nI i)), (2, .int (nI j)), (3, .int (nI k))] := hl
  refine lv_iconst (v := nI 0) hx hb d_R_clear_0 (by decide) ?_
  refine lv_istore hx hb d_R_clear_1 hl (by decide) rfl (fun ls hl => ?_)
  replace hl : lv_has ls 6 [(4, .int (nI 0)), (0, .ref (a 0)), (1, .int (nI i)), (2, .int (nI j)), (3, .int (nI k))] := hl
  obtain ⟨t, e_t⟩ : ∃ z : Nat, z = 0 := ⟨_, rfl⟩
  replace hl : lv_has ls 6 [(0, .ref (a 0)), (1, .int (nI i)), (2, .int (nI j)), (3, .int (nI k)), (4, .int (nI t))] := by (try simp only [e_t]); exact lv_sub hl [1, 2, 3, 4, 0] rfl
  have hle : t ≤ rn := by omega
  have hI : ∀ v, v < t → v ≠ i → v ≠ j → v ≠ k → ¬ (0 ≤ ge_ori (ec_P rx ry i) (ec_P rx ry j) (ec_P rx ry v) ∧ 0 ≤ ge_ori (ec_P rx ry j) (ec_P rx ry k) (ec_P rx ry v) ∧ 0 ≤ ge_ori (ec_P rx ry k) (ec_P rx ry i) (ec_P rx ry v)) := by exact fun v hv => by omega
  clear e_t
  generalize hk3 : rn - t = k3
  induction k3 using Nat.strongRecOn generalizing t ls with
  | ind k3 ih3 =>
  refine lv_iload hx hb d_R_clear_3 (lv_at hl 4 rfl) ?_
  refine lv_aload_n hx hb d_R_clear_5 rfl (lv_at hl 0 rfl) ?_
  refine va_get (D := (dC, dI)) (ci := 5) (v := .int (nI rn)) (C := R_R) (T := T_R) (N := 18) hx hb htb in_R hown hK hP 0 rfl rfl 0 (by decide) (htb _ wd_449) (fun _ h9 => h9) rfl d_R_clear_6 ?_
  refine ec_icmp_ge (tgt := 89) hx hb d_R_clear_9 rfl (by omega) (by omega) (fun h9 => ?_) (fun h9 => ?_)
  · refine lv_iconst (v := nI 0) hx hb d_R_clear_89 (by decide) ?_
    refine lv_istore hx hb d_R_clear_90 hl (by decide) rfl (fun ls hl => ?_)
    replace hl : lv_has ls 6 [(4, .int (nI 0)), (0, .ref (a 0)), (1, .int (nI i)), (2, .int (nI j)), (3, .int (nI k))] := hl
    obtain ⟨s4, e_s4⟩ : ∃ z : Nat, z = 0 := ⟨_, rfl⟩
    replace hl : lv_has ls 6 [(0, .ref (a 0)), (1, .int (nI i)), (2, .int (nI j)), (3, .int (nI k)), (4, .int (nI s4))] := by (try simp only [e_s4]); exact lv_sub hl [1, 2, 3, 4, 0] rfl
    have hle2 : s4 ≤ rl := by omega
    have hI2 : ∀ v, v < s4 → ec_cr2 (ec_P rx ry) rf rt i j k v := by exact fun v hv => by omega
    clear e_s4
    generalize hk92 : rl - s4 = k92
    induction k92 using Nat.strongRecOn generalizing s4 ls with
    | ind k92 ih92 =>
    refine lv_iload hx hb d_R_clear_92 (lv_at hl 4 rfl) ?_
    refine lv_aload_n hx hb d_R_clear_94 rfl (lv_at hl 0 rfl) ?_
    refine va_get (D := (dC, dI)) (ci := 5) (v := .int (nI rl)) (C := R_R) (T := T_R) (N := 18) hx hb htb in_R hown hK hP 0 rfl rfl 3 (by decide) (htb _ wd_452) (fun _ h9 => h9) rfl d_R_clear_95 ?_
    refine ec_icmp_ge (tgt := 155) hx hb d_R_clear_98 rfl (by omega) (by omega) (fun h98 => ?_) (fun h98 => ?_)
    · refine lv_iconst (v := nI 1) hx hb d_R_clear_155 (by decide) ?_
      exact W.zret hx hb hr rfl (fun tS ht hW => ⟨_, rfl, (ec_isB.t1 (ec_clr_t (fun v hv => hI v (by omega)) (fun v hv => hI2 v (by omega)))), ht⟩) (fun _ h => nomatch h) d_R_clear_156
    · have q0 := gll s4 (by omega)
      refine lv_aload_n hx hb d_R_clear_101 rfl (lv_at hl 0 rfl) ?_
      refine lv_iload_n hx hb d_R_clear_102 rfl (lv_at hl 2 rfl) ?_
      refine lv_iload_n hx hb d_R_clear_103 rfl (lv_at hl 3 rfl) ?_
      refine lv_aload_n hx hb d_R_clear_104 rfl (lv_at hl 0 rfl) ?_
      refine va_get (D := (dC, dI)) (ci := 5) (v := .ref (a 3)) (C := R_R) (T := T_R) (N := 18) hx hb htb in_R hown hK hP 0 rfl rfl 4 (by decide) (htb _ wd_453) (fun _ h9 => h9) rfl d_R_clear_105 ?_
      refine lv_iload hx hb d_R_clear_108 (lv_at hl 4 rfl) ?_
      refine ec_ialdN (f := rf) (i := s4) hx hb hK hP 3 0 rfl rfl (by omega) (by decide) d_R_clear_110 ?_
      refine lv_aload_n hx hb d_R_clear_111 rfl (lv_at hl 0 rfl) ?_
      refine va_get (D := (dC, dI)) (ci := 5) (v := .ref (a 4)) (C := R_R) (T := T_R) (N := 18) hx hb htb in_R hown hK hP 0 rfl rfl 5 (by decide) (htb _ wd_454) (fun _ h9 => h9) rfl d_R_clear_112 ?_
      refine lv_iload hx hb d_R_clear_115 (lv_at hl 4 rfl) ?_
      refine ec_ialdN (f := rt) (i := s4) hx hb hK hP 4 0 rfl rfl (by omega) (by decide) d_R_clear_117 ?_
      refine ec_vSi (C := "ExactMeshModel") (ci := 5) (q := (R_R, T_R, 18)) (q0 := 0) (As := [.int (nI j), .int (nI k), .int (nI (rf s4)), .int (nI (rt s4))]) (rest := []) ⟨hx, hb, hml, hown, htb⟩ (c_R_crosses l dC dI a cI cZ cJ rn rx ry rl rf rt rh gx gy rc w1 w2 w3 rg rk kc kf kp rest j k (rf s4) (rt s4) g12 gN (by omega) (by omega) (by omega) (by omega)) kv_R_crosses hK hP rfl rfl rfl wd_537 ⟨Nat.le_of_ble_eq_true rfl, Nat.le_of_ble_eq_true rfl⟩ ⟨rfl, rfl⟩ rfl hl.1 rfl (Nat.le_of_ble_eq_true rfl) d_R_clear_118 ⟨Nat.zero_le _, Nat.zero_le _⟩ (fun r118 hr118 => ?_)
      replace hr118 : ec_isB r118 (ge_Cr (ec_P rx ry j) (ec_P rx ry k) (ec_P rx ry (rf s4)) (ec_P rx ry (rt s4))) := hr118
      refine ec_if_neB (tgt := 147) hx hb hr118 d_R_clear_121 rfl (fun h121 => ?_) (fun h121 => ?_)
      · refine lv_iconst (v := nI 0) hx hb d_R_clear_147 (by decide) ?_
        exact W.zret hx hb hr rfl (fun tS ht hW => ⟨_, rfl, (ec_isB.f0 (ec_clr_f2 h98 (fun q => q.1 h121))), ht⟩) (fun _ h => nomatch h) d_R_clear_148
      · refine lv_aload_n hx hb d_R_clear_124 rfl (lv_at hl 0 rfl) ?_
        refine lv_iload_n hx hb d_R_clear_125 rfl (lv_at hl 3 rfl) ?_
        refine lv_iload_n hx hb d_R_clear_126 rfl (lv_at hl 1 rfl) ?_
        refine lv_aload_n hx hb d_R_clear_127 rfl (lv_at hl 0 rfl) ?_
        refine va_get (D := (dC, dI)) (ci := 5) (v := .ref (a 3)) (C := R_R) (T := T_R) (N := 18) hx hb htb in_R hown hK hP 0 rfl rfl 4 (by decide) (htb _ wd_453) (fun _ h9 => h9) rfl d_R_clear_128 ?_
        refine lv_iload hx hb d_R_clear_131 (lv_at hl 4 rfl) ?_
        refine ec_ialdN (f := rf) (i := s4) hx hb hK hP 3 0 rfl rfl (by omega) (by decide) d_R_clear_133 ?_
        refine lv_aload_n hx hb d_R_clear_134 rfl (lv_at hl 0 rfl) ?_
        refine va_get (D := (dC, dI)) (ci := 5) (v := .ref (a 4)) (C := R_R) (T := T_R) (N := 18) hx hb htb in_R hown hK hP 0 rfl rfl 5 (by decide) (htb _ wd_454) (fun _ h9 => h9) rfl d_R_clear_135 ?_
        refine lv_iload hx hb d_R_clear_138 (lv_at hl 4 rfl) ?_
        refine ec_ialdN (f := rt) (i := s4) hx hb hK hP 4 0 rfl rfl (by omega) (by decide) d_R_clear_140 ?_
        refine ec_vSi (C := "ExactMeshModel") (ci := 5) (q := (R_R, T_R, 18)) (q0 := 0) (As := [.int (nI k), .int (nI i), .int (nI (rf s4)), .int (nI (rt s4))]) (rest := []) ⟨hx, hb, hml, hown, htb⟩ (c_R_crosses l dC dI a cI cZ cJ rn rx ry rl rf rt rh gx gy rc w1 w2 w3 rg rk kc kf kp rest k i (rf s4) (rt s4) g12 gN (by omega) (by omega) (by omega) (by omega)) kv_R_crosses hK hP rfl rfl rfl wd_537 ⟨Nat.le_of_ble_eq_true rfl, Nat.le_of_ble_eq_true rfl⟩ ⟨rfl, rfl⟩ rfl hl.1 rfl (Nat.le_of_ble_eq_true rfl) d_R_clear_141 ⟨Nat.zero_le _, Nat.zero_le _⟩ (fun r141 hr141 => ?_)
        replace hr141 : ec_isB r141 (ge_Cr (ec_P rx ry k) (ec_P rx ry i) (ec_P rx ry (rf s4)) (ec_P rx ry (rt s4))) := hr141
        refine ec_if_eqB (tgt := 149) hx hb hr141 d_R_clear_144 rfl (fun h144 => ?_) (fun h144 => ?_)
        · refine ec_iinc (k := 4) hx hb d_R_clear_149 hl rfl (by decide) rfl (fun ls hl => ?_)
          replace hl : lv_has ls 6 [(4, .int (nI (s4 + 1))), (0, .ref (a 0)), (1, .int (nI i)), (2, .int (nI j)), (3, .int (nI k))] := hl
          refine lv_goto (tgt := 92) hx hb d_R_clear_152 rfl ?_
          exact ih92 _ (by omega) (s4 := s4 + 1) (ls := ls) (hl := lv_sub hl [1, 2, 3, 4, 0] rfl) (hle2 := (by omega)) (hI2 := (lt_s hI2 ⟨h121, h144⟩)) (hk92 := rfl)
        · refine lv_iconst (v := nI 0) hx hb d_R_clear_147 (by decide) ?_
          exact W.zret hx hb hr rfl (fun tS ht hW => ⟨_, rfl, (ec_isB.f0 (ec_clr_f2 h98 (fun q => q.2 h144))), ht⟩) (fun _ h => nomatch h) d_R_clear_148
  · refine lv_iload hx hb d_R_clear_12 (lv_at hl 4 rfl) ?_
    refine lv_iload_n hx hb d_R_clear_14 rfl (lv_at hl 1 rfl) ?_
    refine ec_icmp_eq (tgt := 34) hx hb d_R_clear_15 rfl (by omega) (by omega) (fun h15 => ?_) (fun h15 => ?_)
    · refine lv_iconst (v := nI 0) hx hb d_R_clear_34 (by decide) ?_
      refine lv_istore hx hb d_R_clear_35 hl (by decide) rfl (fun ls hl => ?_)
      replace hl : lv_has ls 6 [(5, .int (nI 0)), (0, .ref (a 0)), (1, .int (nI i)), (2, .int (nI j)), (3, .int (nI k)), (4, .int (nI t))] := hl
      refine lv_iload hx hb d_R_clear_37 (lv_at hl 0 rfl) ?_
      refine ec_if_eq (tgt := 83) hx hb d_R_clear_39 rfl (by omega) (fun h39 => ?_) (fun h39 => ?_)
      · refine ec_iinc (k := 5) hx hb d_R_clear_83 hl rfl (by decide) rfl (fun ls hl => ?_)
        replace hl : lv_has ls 6 [(4, .int (nI (t + 1))), (5, .int (nI 0)), (0, .ref (a 0)), (1, .int (nI i)), (2, .int (nI j)), (3, .int (nI k))] := hl
        refine lv_goto (tgt := 3) hx hb d_R_clear_86 rfl ?_
        exact ih3 _ (by omega) (t := t + 1) (ls := ls) (hl := lv_sub hl [2, 3, 4, 5, 0] rfl) (hle := (by omega)) (hI := (lt_s hI (fun q => absurd h15 q))) (hk3 := rfl)
      · exact absurd h39 (by decide)
    · refine lv_iload hx hb d_R_clear_18 (lv_at hl 4 rfl) ?_
      refine lv_iload_n hx hb d_R_clear_20 rfl (lv_at hl 2 rfl) ?_
      refine ec_icmp_eq (tgt := 34) hx hb d_R_clear_21 rfl (by omega) (by omega) (fun h21 => ?_) (fun h21 => ?_)
      · refine lv_iconst (v := nI 0) hx hb d_R_clear_34 (by decide) ?_
        refine lv_istore hx hb d_R_clear_35 hl (by decide) rfl (fun ls hl => ?_)
        replace hl : lv_has ls 6 [(5, .int (nI 0)), (0, .ref (a 0)), (1, .int (nI i)), (2, .int (nI j)), (3, .int (nI k)), (4, .int (nI t))] := hl
        refine lv_iload hx hb d_R_clear_37 (lv_at hl 0 rfl) ?_
        refine ec_if_eq (tgt := 83) hx hb d_R_clear_39 rfl (by omega) (fun h39_1 => ?_) (fun h39_1 => ?_)
        · refine ec_iinc (k := 5) hx hb d_R_clear_83 hl rfl (by decide) rfl (fun ls hl => ?_)
          replace hl : lv_has ls 6 [(4, .int (nI (t + 1))), (5, .int (nI 0)), (0, .ref (a 0)), (1, .int (nI i)), (2, .int (nI j)), (3, .int (nI k))] := hl
          refine lv_goto (tgt := 3) hx hb d_R_clear_86 rfl ?_
          exact ih3 _ (by omega) (t := t + 1) (ls := ls) (hl := lv_sub hl [2, 3, 4, 5, 0] rfl) (hle := (by omega)) (hI := (lt_s hI (fun _ q => absurd h21 q))) (hk3 := rfl)
        · exact absurd h39_1 (by decide)
      · refine lv_iload hx hb d_R_clear_24 (lv_at hl 4 rfl) ?_
        refine lv_iload_n hx hb d_R_clear_26 rfl (lv_at hl 3 rfl) ?_
        refine ec_icmp_eq (tgt := 34) hx hb d_R_clear_27 rfl (by omega) (by omega) (fun h27 => ?_) (fun h27 => ?_)
        · refine lv_iconst (v := nI 0) hx hb d_R_clear_34 (by decide) ?_
          refine lv_istore hx hb d_R_clear_35 hl (by decide) rfl (fun ls hl => ?_)
          replace hl : lv_has ls 6 [(5, .int (nI 0)), (0, .ref (a 0)), (1, .int (nI i)), (2, .int (nI j)), (3, .int (nI k)), (4, .int (nI t))] := hl
          refine lv_iload hx hb d_R_clear_37 (lv_at hl 0 rfl) ?_
          refine ec_if_eq (tgt := 83) hx hb d_R_clear_39 rfl (by omega) (fun h39_2 => ?_) (fun h39_2 => ?_)
          · refine ec_iinc (k := 5) hx hb d_R_clear_83 hl rfl (by decide) rfl (fun ls hl => ?_)
            replace hl : lv_has ls 6 [(4, .int (nI (t + 1))), (5, .int (nI 0)), (0, .ref (a 0)), (1, .int (nI i)), (2, .int (nI j)), (3, .int (nI k))] := hl
            refine lv_goto (tgt := 3) hx hb d_R_clear_86 rfl ?_
            exact ih3 _ (by omega) (t := t + 1) (ls := ls) (hl := lv_sub hl [2, 3, 4, 5, 0] rfl) (hle := (by omega)) (hI := (lt_s hI (fun _ _ q => absurd h27 q))) (hk3 := rfl)
          · exact absurd h39_2 (by decide)
        · refine lv_iconst (v := nI 1) hx hb d_R_clear_30 (by decide) ?_
          refine lv_goto (tgt := 35) hx hb d_R_clear_31 rfl ?_
          refine lv_istore hx hb d_R_clear_35 hl (by decide) rfl (fun ls hl => ?_)
          replace hl : lv_has ls 6 [(5, .int (nI 1)), (0, .ref (a 0)), (1, .int (nI i)), (2, .int (nI j)), (3, .int (nI k)), (4, .int (nI t))] := hl
          refine lv_iload hx hb d_R_clear_37 (lv_at hl 0 rfl) ?_
          refine ec_if_eq (tgt := 83) hx hb d_R_clear_39 rfl (by omega) (fun h39_3 => ?_) (fun h39_3 => ?_)
          · exact absurd h39_3 (by decide)
          · refine lv_aload_n hx hb d_R_clear_42 rfl (lv_at hl 1 rfl) ?_
            refine lv_iload_n hx hb d_R_clear_43 rfl (lv_at hl 2 rfl) ?_
            refine lv_iload_n hx hb d_R_clear_44 rfl (lv_at hl 3 rfl) ?_
            refine lv_iload hx hb d_R_clear_45 (lv_at hl 5 rfl) ?_
            refine ec_vSl (C := "ExactMeshModel") (ci := 5) (q := (R_R, T_R, 18)) (q0 := 0) (As := [.int (nI i), .int (nI j), .int (nI t)]) (rest := []) ⟨hx, hb, hml, hown, htb⟩ (c_R_of l dC dI a cI cZ cJ rn rx ry rl rf rt rh gx gy rc w1 w2 w3 rg rk kc kf kp rest i j t g12 gN (by omega) (by omega) (by omega)) kv_R_of hK hP rfl rfl rfl wd_541 ⟨Nat.le_of_ble_eq_true rfl, Nat.le_of_ble_eq_true rfl⟩ ⟨rfl, rfl⟩ rfl hl.1 rfl (Nat.le_of_ble_eq_true rfl) d_R_clear_47 ⟨Nat.zero_le _, Nat.zero_le _⟩ (fun r47 hr47 => ?_)
            replace hr47 : r47.toInt = ge_ori (ec_P rx ry i) (ec_P rx ry j) (ec_P rx ry t) := hr47
            refine lv_lconst (v := 0) hx hb d_R_clear_50 (by decide) ?_
            refine W.lcmp hx hb d_R_clear_51 ?_
            refine lv_if_lt (tgt := 83) hx hb d_R_clear_52 rfl (fun h52 => ?_) (fun h52 => ?_)
            · rw [lg_cmp_lt] at h52
              refine ec_iinc (k := 5) hx hb d_R_clear_83 hl rfl (by decide) rfl (fun ls hl => ?_)
              replace hl : lv_has ls 6 [(4, .int (nI (t + 1))), (5, .int (nI 1)), (0, .ref (a 0)), (1, .int (nI i)), (2, .int (nI j)), (3, .int (nI k))] := hl
              refine lv_goto (tgt := 3) hx hb d_R_clear_86 rfl ?_
              exact ih3 _ (by omega) (t := t + 1) (ls := ls) (hl := lv_sub hl [2, 3, 4, 5, 0] rfl) (hle := (by omega)) (hI := (lt_s hI (fun _ _ _ q => ec_lt0' hr47 h52 q.1))) (hk3 := rfl)
            · rw [lg_cmp_lt] at h52
              refine lv_aload_n hx hb d_R_clear_55 rfl (lv_at hl 1 rfl) ?_
              refine lv_iload_n hx hb d_R_clear_56 rfl (lv_at hl 3 rfl) ?_
              refine lv_iload_n hx hb d_R_clear_57 rfl (lv_at hl 4 rfl) ?_
              refine lv_iload hx hb d_R_clear_58 (lv_at hl 5 rfl) ?_
              refine ec_vSl (C := "ExactMeshModel") (ci := 5) (q := (R_R, T_R, 18)) (q0 := 0) (As := [.int (nI j), .int (nI k), .int (nI t)]) (rest := []) ⟨hx, hb, hml, hown, htb⟩ (c_R_of l dC dI a cI cZ cJ rn rx ry rl rf rt rh gx gy rc w1 w2 w3 rg rk kc kf kp rest j k t g12 gN (by omega) (by omega) (by omega)) kv_R_of hK hP rfl rfl rfl wd_541 ⟨Nat.le_of_ble_eq_true rfl, Nat.le_of_ble_eq_true rfl⟩ ⟨rfl, rfl⟩ rfl hl.1 rfl (Nat.le_of_ble_eq_true rfl) d_R_clear_60 ⟨Nat.zero_le _, Nat.zero_le _⟩ (fun r60 hr60 => ?_)
              replace hr60 : r60.toInt = ge_ori (ec_P rx ry j) (ec_P rx ry k) (ec_P rx ry t) := hr60
              refine lv_lconst (v := 0) hx hb d_R_clear_63 (by decide) ?_
              refine W.lcmp hx hb d_R_clear_64 ?_
              refine lv_if_lt (tgt := 83) hx hb d_R_clear_65 rfl (fun h65 => ?_) (fun h65 => ?_)
              · rw [lg_cmp_lt] at h65
                refine ec_iinc (k := 5) hx hb d_R_clear_83 hl rfl (by decide) rfl (fun ls hl => ?_)
                replace hl : lv_has ls 6 [(4, .int (nI (t + 1))), (5, .int (nI 1)), (0, .ref (a 0)), (1, .int (nI i)), (2, .int (nI j)), (3, .int (nI k))] := hl
                refine lv_goto (tgt := 3) hx hb d_R_clear_86 rfl ?_
                exact ih3 _ (by omega) (t := t + 1) (ls := ls) (hl := lv_sub hl [2, 3, 4, 5, 0] rfl) (hle := (by omega)) (hI := (lt_s hI (fun _ _ _ q => ec_lt0' hr60 h65 q.2.1))) (hk3 := rfl)
              · rw [lg_cmp_lt] at h65
                refine lv_aload_n hx hb d_R_clear_68 rfl (lv_at hl 1 rfl) ?_
                refine lv_iload_n hx hb d_R_clear_69 rfl (lv_at hl 4 rfl) ?_
                refine lv_iload_n hx hb d_R_clear_70 rfl (lv_at hl 2 rfl) ?_
                refine lv_iload hx hb d_R_clear_71 (lv_at hl 5 rfl) ?_
                refine ec_vSl (C := "ExactMeshModel") (ci := 5) (q := (R_R, T_R, 18)) (q0 := 0) (As := [.int (nI k), .int (nI i), .int (nI t)]) (rest := []) ⟨hx, hb, hml, hown, htb⟩ (c_R_of l dC dI a cI cZ cJ rn rx ry rl rf rt rh gx gy rc w1 w2 w3 rg rk kc kf kp rest k i t g12 gN (by omega) (by omega) (by omega)) kv_R_of hK hP rfl rfl rfl wd_541 ⟨Nat.le_of_ble_eq_true rfl, Nat.le_of_ble_eq_true rfl⟩ ⟨rfl, rfl⟩ rfl hl.1 rfl (Nat.le_of_ble_eq_true rfl) d_R_clear_73 ⟨Nat.zero_le _, Nat.zero_le _⟩ (fun r73 hr73 => ?_)
                replace hr73 : r73.toInt = ge_ori (ec_P rx ry k) (ec_P rx ry i) (ec_P rx ry t) := hr73
                refine lv_lconst (v := 0) hx hb d_R_clear_76 (by decide) ?_
                refine W.lcmp hx hb d_R_clear_77 ?_
                refine lv_if_lt (tgt := 83) hx hb d_R_clear_78 rfl (fun h78 => ?_) (fun h78 => ?_)
                · rw [lg_cmp_lt] at h78
                  refine ec_iinc (k := 5) hx hb d_R_clear_83 hl rfl (by decide) rfl (fun ls hl => ?_)
                  replace hl : lv_has ls 6 [(4, .int (nI (t + 1))), (5, .int (nI 1)), (0, .ref (a 0)), (1, .int (nI i)), (2, .int (nI j)), (3, .int (nI k))] := hl
                  refine lv_goto (tgt := 3) hx hb d_R_clear_86 rfl ?_
                  exact ih3 _ (by omega) (t := t + 1) (ls := ls) (hl := lv_sub hl [2, 3, 4, 5, 0] rfl) (hle := (by omega)) (hI := (lt_s hI (fun _ _ _ q => ec_lt0' hr73 h78 q.2.2))) (hk3 := rfl)
                · rw [lg_cmp_lt] at h78
                  refine lv_iconst (v := nI 0) hx hb d_R_clear_81 (by decide) ?_
                  exact W.zret hx hb hr rfl (fun tS ht hW => ⟨_, rfl, (ec_isB.f0 (ec_clr_f1 h9 h15 h21 h27 (ec_ge0' hr47 h52) (ec_ge0' hr60 h65) (ec_ge0' hr73 h78))), ht⟩) (fun _ h => nomatch h) d_R_clear_82

set_option maxRecDepth 100000 in
set_option maxHeartbeats 4000000 in
theorem c_R_canBe (l : Launch) (dC : Nat → ClassId) (dI : Nat → Nat → Nat) (a : Nat → Nat) (cI cZ cJ : ClassId) (rn : Nat) (rx : Nat → Int32) (ry : Nat → Int32) (rl : Nat) (rf : Nat → Nat) (rt : Nat → Nat) (rh : Nat) (gx : Nat → Int32) (gy : Nat → Int32) (rc : Nat) (w1 : Nat → Nat) (w2 : Nat → Nat) (w3 : Nat → Nat) (rg : Nat → Prop) (rk : Nat) (kc : Nat → Nat) (kf : Nat → Prop) (kp : Nat → Int64) (rest : va_W) (i : Nat) (j : Nat) (k : Nat) (g12 : rn ≤ 12) (gN : ∀ i, i < rn → ec_near (rx i) ∧ ec_near (ry i)) (grl : rl ≤ 10) (gll : ∀ i, i < rl → rf i < rn ∧ rt i < rn) (hi : i < rn) (hj : j < rn) (hk : k < rn) : Met l y_R_canBe (Cond.code y_R_canBe b_R_canBe 4 (some .boolean) :: ec_tbl) ({ frames := 4, cells := 0, slots := 0, locals := 103 }) (va_Pc [.ref (a 0), .int (nI i), .int (nI j), .int (nI k)] (fun U => va_P (dC, dI) vwCl (wR a cI cZ cJ rn rx ry rl rf rt rh gx gy rc w1 w2 w3 rg rk kc kf kp ++ rest) U.heap ∧ va_K (dC, dI) vwCl (ec_tys cI cZ cJ) U)) (vp_Si (fun r : Int32 => ec_isB r (ec_can rn (ec_P rx ry) (ec_E rl rf rt) i j k))) 0 0 (fun _ => False) := by
  refine Met.ofW (cc := b_R_canBe) (maxL := 4) (ret := (some .boolean)) (by decide) rfl ?_
  intro p e s m args below meth c s₁ B hml hv0
  obtain ⟨rfl, hP, hK⟩ := hv0
  have hx := B.exec
  have hb := B.bytes
  have hr := B.returns
  have hts := atoms_spec (ws := (Cond.code y_R_canBe b_R_canBe 4 (some .boolean) :: ec_tbl)) B.pre
  have htb : ∀ w ∈ ec_tbl, w.before _ s = true := fun w h => hts w (List.mem_cons_of_mem _ h)
  clear hts
  have hown : s.vm.findClass "ExactMeshModel" = some m.cls := findClass_of_methodNamed B.named
  have hlocks := B.notSynchronized
  have hl := lv_entry ([.ref (a 0), .int (nI i), .int (nI j), .int (nI k)]) (n := 4) (Nat.le_of_ble_eq_true rfl)
  rw [lg_entry_eq]
  generalize (lg_sl ([.ref (a 0), .int (nI i), .int (nI j), .int (nI k)]) ++ List.replicate (4 - (lg_sl ([.ref (a 0), .int (nI i), .int (nI j), .int (nI k)])).length) Slot.unset).toArray = ls at hl ⊢
  replace hl : lv_has ls 4 [(0, .ref (a 0)), (1, .int (nI i)), (2, .int (nI j)), (3, .int (nI k))] := hl
  refine lv_aload_n hx hb d_R_canBe_0 rfl (lv_at hl 0 rfl) ?_
  refine lv_iload_n hx hb d_R_canBe_1 rfl (lv_at hl 1 rfl) ?_
  refine lv_iload_n hx hb d_R_canBe_2 rfl (lv_at hl 2 rfl) ?_
  refine lv_iload_n hx hb d_R_canBe_3 rfl (lv_at hl 3 rfl) ?_
  refine ec_vSl (C := "ExactMeshModel") (ci := 5) (q := (R_R, T_R, 18)) (q0 := 0) (As := [.int (nI i), .int (nI j), .int (nI k)]) (rest := []) ⟨hx, hb, hml, hown, htb⟩ (c_R_of l dC dI a cI cZ cJ rn rx ry rl rf rt rh gx gy rc w1 w2 w3 rg rk kc kf kp rest i j k g12 gN (by omega) (by omega) (by omega)) kv_R_of hK hP rfl rfl rfl wd_541 ⟨Nat.le_of_ble_eq_true rfl, Nat.le_of_ble_eq_true rfl⟩ ⟨rfl, rfl⟩ rfl hl.1 rfl (Nat.le_of_ble_eq_true rfl) d_R_canBe_4 ⟨Nat.zero_le _, Nat.zero_le _⟩ (fun r4 hr4 => ?_)
  replace hr4 : r4.toInt = ge_ori (ec_P rx ry i) (ec_P rx ry j) (ec_P rx ry k) := hr4
  refine lv_lconst (v := 0) hx hb d_R_canBe_7 (by decide) ?_
  refine W.lcmp hx hb d_R_canBe_8 ?_
  refine lv_if_le (tgt := 26) hx hb d_R_canBe_9 rfl (fun h9 => ?_) (fun h9 => ?_)
  · rw [lg_cmp_le] at h9
    refine lv_iconst (v := nI 0) hx hb d_R_canBe_26 (by decide) ?_
    exact W.zret hx hb hr rfl (fun tS ht hW => ⟨_, rfl, (ec_isB.f0 (fun q => by have := ec_le0 hr4 h9; have := q.1; omega)), ht⟩) (fun _ h => nomatch h) d_R_canBe_27
  · rw [lg_cmp_le] at h9
    refine lv_aload_n hx hb d_R_canBe_12 rfl (lv_at hl 0 rfl) ?_
    refine lv_iload_n hx hb d_R_canBe_13 rfl (lv_at hl 1 rfl) ?_
    refine lv_iload_n hx hb d_R_canBe_14 rfl (lv_at hl 2 rfl) ?_
    refine lv_iload_n hx hb d_R_canBe_15 rfl (lv_at hl 3 rfl) ?_
    refine ec_vSi (C := "ExactMeshModel") (ci := 5) (q := (R_R, T_R, 18)) (q0 := 0) (As := [.int (nI i), .int (nI j), .int (nI k)]) (rest := []) ⟨hx, hb, hml, hown, htb⟩ (c_R_clear l dC dI a cI cZ cJ rn rx ry rl rf rt rh gx gy rc w1 w2 w3 rg rk kc kf kp rest i j k g12 gN grl gll (by omega) (by omega) (by omega)) kv_R_clear hK hP rfl rfl rfl wd_598 ⟨Nat.le_of_ble_eq_true rfl, Nat.le_of_ble_eq_true rfl⟩ ⟨rfl, rfl⟩ rfl hl.1 rfl (Nat.le_of_ble_eq_true rfl) d_R_canBe_16 ⟨Nat.zero_le _, Nat.zero_le _⟩ (fun r16 hr16 => ?_)
    replace hr16 : ec_isB r16 (ec_clr rn (ec_P rx ry) (ec_E rl rf rt) i j k) := hr16
    refine ec_if_eqB (tgt := 26) hx hb hr16 d_R_canBe_19 rfl (fun h19 => ?_) (fun h19 => ?_)
    · refine lv_iconst (v := nI 0) hx hb d_R_canBe_26 (by decide) ?_
      exact W.zret hx hb hr rfl (fun tS ht hW => ⟨_, rfl, (ec_isB.f0 (fun q => h19 q.2)), ht⟩) (fun _ h => nomatch h) d_R_canBe_27
    · refine lv_iconst (v := nI 1) hx hb d_R_canBe_22 (by decide) ?_
      refine lv_goto (tgt := 27) hx hb d_R_canBe_23 rfl ?_
      exact W.zret hx hb hr rfl (fun tS ht hW => ⟨_, rfl, (ec_isB.t1 ⟨ec_gt0 hr4 h9, h19⟩), ht⟩) (fun _ h => nomatch h) d_R_canBe_27

set_option maxRecDepth 100000 in
set_option maxHeartbeats 4000000 in
theorem c_R_inside (l : Launch) (dC : Nat → ClassId) (dI : Nat → Nat → Nat) (a : Nat → Nat) (cI cZ cJ : ClassId) (rn : Nat) (rx : Nat → Int32) (ry : Nat → Int32) (rl : Nat) (rf : Nat → Nat) (rt : Nat → Nat) (rh : Nat) (gx : Nat → Int32) (gy : Nat → Int32) (rc : Nat) (w1 : Nat → Nat) (w2 : Nat → Nat) (w3 : Nat → Nat) (rg : Nat → Prop) (rk : Nat) (kc : Nat → Nat) (kf : Nat → Prop) (kp : Nat → Int64) (rest : va_W) (i : Nat) (j : Nat) (k : Nat) (vx : Int32) (vy : Int32) (g12 : rn ≤ 12) (gN : ∀ i, i < rn → ec_near (rx i) ∧ ec_near (ry i)) (hi : i < rn) (hj : j < rn) (hk : k < rn) : Met l y_R_inside (Cond.code y_R_inside b_R_inside 8 (some .boolean) :: ec_tbl) ({ frames := 2, cells := 0, slots := 0, locals := 57 }) (va_Pc [.ref (a 0), .int (nI i), .int (nI j), .int (nI k), .long vx.toInt64, .long vy.toInt64] (fun U => va_P (dC, dI) vwCl (wR a cI cZ cJ rn rx ry rl rf rt rh gx gy rc w1 w2 w3 rg rk kc kf kp ++ rest) U.heap ∧ va_K (dC, dI) vwCl (ec_tys cI cZ cJ) U)) (vp_Si (fun r : Int32 => ec_isB r (ec_in3 rx ry i j k vx vy))) 0 0 (fun _ => False) := by
  refine Met.ofW (cc := b_R_inside) (maxL := 8) (ret := (some .boolean)) (by decide) rfl ?_
  intro p e s m args below meth c s₁ B hml hv0
  obtain ⟨rfl, hP, hK⟩ := hv0
  have hx := B.exec
  have hb := B.bytes
  have hr := B.returns
  have hts := atoms_spec (ws := (Cond.code y_R_inside b_R_inside 8 (some .boolean) :: ec_tbl)) B.pre
  have htb : ∀ w ∈ ec_tbl, w.before _ s = true := fun w h => hts w (List.mem_cons_of_mem _ h)
  clear hts
  have hown : s.vm.findClass "ExactMeshModel" = some m.cls := findClass_of_methodNamed B.named
  have hlocks := B.notSynchronized
  have hl := lv_entry ([.ref (a 0), .int (nI i), .int (nI j), .int (nI k), .long vx.toInt64, .long vy.toInt64]) (n := 8) (Nat.le_of_ble_eq_true rfl)
  rw [lg_entry_eq]
  generalize (lg_sl ([.ref (a 0), .int (nI i), .int (nI j), .int (nI k), .long vx.toInt64, .long vy.toInt64]) ++ List.replicate (8 - (lg_sl ([.ref (a 0), .int (nI i), .int (nI j), .int (nI k), .long vx.toInt64, .long vy.toInt64])).length) Slot.unset).toArray = ls at hl ⊢
  replace hl : lv_has ls 8 [(0, .ref (a 0)), (1, .int (nI i)), (2, .int (nI j)), (3, .int (nI k)), (4, .long vx.toInt64), (6, .long vy.toInt64)] := hl
  refine lv_aload_n hx hb d_R_inside_0 rfl (lv_at hl 0 rfl) ?_
  refine lv_iload_n hx hb d_R_inside_1 rfl (lv_at hl 1 rfl) ?_
  refine lv_iload_n hx hb d_R_inside_2 rfl (lv_at hl 2 rfl) ?_
  refine lv_lload hx hb d_R_inside_3 (lv_at hl 4 rfl) ?_
  refine lv_lload hx hb d_R_inside_5 (lv_at hl 5 rfl) ?_
  refine ec_vSl (C := "ExactMeshModel") (ci := 5) (q := (R_R, T_R, 18)) (q0 := 0) (As := [.int (nI i), .int (nI j), .long vx.toInt64, .long vy.toInt64]) (rest := []) ⟨hx, hb, hml, hown, htb⟩ (c_R_side l dC dI a cI cZ cJ rn rx ry rl rf rt rh gx gy rc w1 w2 w3 rg rk kc kf kp rest i j vx vy g12 gN (by omega) (by omega)) kv_R_side hK hP rfl rfl rfl wd_518 ⟨Nat.le_of_ble_eq_true rfl, Nat.le_of_ble_eq_true rfl⟩ ⟨rfl, rfl⟩ rfl hl.1 rfl (Nat.le_of_ble_eq_true rfl) d_R_inside_7 ⟨Nat.zero_le _, Nat.zero_le _⟩ (fun r7 hr7 => ?_)
  replace hr7 : r7.toInt = ec_lf (rx i).toInt (ry i).toInt (rx j).toInt (ry j).toInt vx.toInt vy.toInt := hr7
  refine lv_lconst (v := 0) hx hb d_R_inside_10 (by decide) ?_
  refine W.lcmp hx hb d_R_inside_11 ?_
  refine lv_if_lt (tgt := 49) hx hb d_R_inside_12 rfl (fun h12 => ?_) (fun h12 => ?_)
  · rw [lg_cmp_lt] at h12
    refine lv_iconst (v := nI 0) hx hb d_R_inside_49 (by decide) ?_
    exact W.zret hx hb hr rfl (fun tS ht hW => ⟨_, rfl, (ec_isB.f0 (fun q => ec_lt0' hr7 h12 q.1)), ht⟩) (fun _ h => nomatch h) d_R_inside_50
  · rw [lg_cmp_lt] at h12
    refine lv_aload_n hx hb d_R_inside_15 rfl (lv_at hl 0 rfl) ?_
    refine lv_iload_n hx hb d_R_inside_16 rfl (lv_at hl 2 rfl) ?_
    refine lv_iload_n hx hb d_R_inside_17 rfl (lv_at hl 3 rfl) ?_
    refine lv_lload hx hb d_R_inside_18 (lv_at hl 4 rfl) ?_
    refine lv_lload hx hb d_R_inside_20 (lv_at hl 5 rfl) ?_
    refine ec_vSl (C := "ExactMeshModel") (ci := 5) (q := (R_R, T_R, 18)) (q0 := 0) (As := [.int (nI j), .int (nI k), .long vx.toInt64, .long vy.toInt64]) (rest := []) ⟨hx, hb, hml, hown, htb⟩ (c_R_side l dC dI a cI cZ cJ rn rx ry rl rf rt rh gx gy rc w1 w2 w3 rg rk kc kf kp rest j k vx vy g12 gN (by omega) (by omega)) kv_R_side hK hP rfl rfl rfl wd_518 ⟨Nat.le_of_ble_eq_true rfl, Nat.le_of_ble_eq_true rfl⟩ ⟨rfl, rfl⟩ rfl hl.1 rfl (Nat.le_of_ble_eq_true rfl) d_R_inside_22 ⟨Nat.zero_le _, Nat.zero_le _⟩ (fun r22 hr22 => ?_)
    replace hr22 : r22.toInt = ec_lf (rx j).toInt (ry j).toInt (rx k).toInt (ry k).toInt vx.toInt vy.toInt := hr22
    refine lv_lconst (v := 0) hx hb d_R_inside_25 (by decide) ?_
    refine W.lcmp hx hb d_R_inside_26 ?_
    refine lv_if_lt (tgt := 49) hx hb d_R_inside_27 rfl (fun h27 => ?_) (fun h27 => ?_)
    · rw [lg_cmp_lt] at h27
      refine lv_iconst (v := nI 0) hx hb d_R_inside_49 (by decide) ?_
      exact W.zret hx hb hr rfl (fun tS ht hW => ⟨_, rfl, (ec_isB.f0 (fun q => ec_lt0' hr22 h27 q.2.1)), ht⟩) (fun _ h => nomatch h) d_R_inside_50
    · rw [lg_cmp_lt] at h27
      refine lv_aload_n hx hb d_R_inside_30 rfl (lv_at hl 0 rfl) ?_
      refine lv_iload_n hx hb d_R_inside_31 rfl (lv_at hl 3 rfl) ?_
      refine lv_iload_n hx hb d_R_inside_32 rfl (lv_at hl 1 rfl) ?_
      refine lv_lload hx hb d_R_inside_33 (lv_at hl 4 rfl) ?_
      refine lv_lload hx hb d_R_inside_35 (lv_at hl 5 rfl) ?_
      refine ec_vSl (C := "ExactMeshModel") (ci := 5) (q := (R_R, T_R, 18)) (q0 := 0) (As := [.int (nI k), .int (nI i), .long vx.toInt64, .long vy.toInt64]) (rest := []) ⟨hx, hb, hml, hown, htb⟩ (c_R_side l dC dI a cI cZ cJ rn rx ry rl rf rt rh gx gy rc w1 w2 w3 rg rk kc kf kp rest k i vx vy g12 gN (by omega) (by omega)) kv_R_side hK hP rfl rfl rfl wd_518 ⟨Nat.le_of_ble_eq_true rfl, Nat.le_of_ble_eq_true rfl⟩ ⟨rfl, rfl⟩ rfl hl.1 rfl (Nat.le_of_ble_eq_true rfl) d_R_inside_37 ⟨Nat.zero_le _, Nat.zero_le _⟩ (fun r37 hr37 => ?_)
      replace hr37 : r37.toInt = ec_lf (rx k).toInt (ry k).toInt (rx i).toInt (ry i).toInt vx.toInt vy.toInt := hr37
      refine lv_lconst (v := 0) hx hb d_R_inside_40 (by decide) ?_
      refine W.lcmp hx hb d_R_inside_41 ?_
      refine lv_if_lt (tgt := 49) hx hb d_R_inside_42 rfl (fun h42 => ?_) (fun h42 => ?_)
      · rw [lg_cmp_lt] at h42
        refine lv_iconst (v := nI 0) hx hb d_R_inside_49 (by decide) ?_
        exact W.zret hx hb hr rfl (fun tS ht hW => ⟨_, rfl, (ec_isB.f0 (fun q => ec_lt0' hr37 h42 q.2.2)), ht⟩) (fun _ h => nomatch h) d_R_inside_50
      · rw [lg_cmp_lt] at h42
        refine lv_iconst (v := nI 1) hx hb d_R_inside_45 (by decide) ?_
        refine lv_goto (tgt := 50) hx hb d_R_inside_46 rfl ?_
        exact W.zret hx hb hr rfl (fun tS ht hW => ⟨_, rfl, (ec_isB.t1 ⟨ec_ge0' hr7 h12, ec_ge0' hr22 h27, ec_ge0' hr37 h42⟩), ht⟩) (fun _ h => nomatch h) d_R_inside_50

set_option maxRecDepth 100000 in
set_option maxHeartbeats 4000000 in
theorem c_R_vertex (l : Launch) (dC : Nat → ClassId) (dI : Nat → Nat → Nat) (a : Nat → Nat) (cI cZ cJ : ClassId) (rn : Nat) (rx : Nat → Int32) (ry : Nat → Int32) (rl : Nat) (rf : Nat → Nat) (rt : Nat → Nat) (rh : Nat) (gx : Nat → Int32) (gy : Nat → Int32) (rc : Nat) (w1 : Nat → Nat) (w2 : Nat → Nat) (w3 : Nat → Nat) (rg : Nat → Prop) (rk : Nat) (kc : Nat → Nat) (kf : Nat → Prop) (kp : Nat → Int64) (rest : va_W) (vx : Int32) (vy : Int32) (glr : Nat → Nat) (gS : ec_SI rn rx ry rl rf rt glr) (A : Nat → Prop) (hD : va_D A (wR a cI cZ cJ rn rx ry rl rf rt rh gx gy rc w1 w2 w3 rg rk kc kf kp ++ rest)) : Met l y_R_vertex (Cond.code y_R_vertex b_R_vertex 4 (some .int) :: ec_tbl) ({ frames := 3, cells := 0, slots := 0, locals := 85 }) (va_Pc [.ref (a 0), .int vx, .int vy] (fun U => va_P (dC, dI) vwCl (wR a cI cZ cJ rn rx ry rl rf rt rh gx gy rc w1 w2 w3 rg rk kc kf kp ++ rest) U.heap ∧ va_K (dC, dI) vwCl (ec_tys cI cZ cJ) U)) (va_Qi (fun (r : Int32) (u : ec_V) => (r, u) = ec_vertF rn rx ry rl rf rt vx vy) (fun u t => va_P (dC, dI) vwCl (wR a cI cZ cJ u.1 u.2.1 u.2.2 rl rf rt rh gx gy rc w1 w2 w3 rg rk kc kf kp ++ rest) t.heap) A) 0 0 A := by
  refine Met.ofW (cc := b_R_vertex) (maxL := 4) (ret := (some .int)) (by decide) rfl ?_
  intro p e s m args below meth c s₁ B hml hv0
  obtain ⟨rfl, hP, hK⟩ := hv0
  have hx := B.exec
  have hb := B.bytes
  have hr := B.returns
  have hts := atoms_spec (ws := (Cond.code y_R_vertex b_R_vertex 4 (some .int) :: ec_tbl)) B.pre
  have htb : ∀ w ∈ ec_tbl, w.before _ s = true := fun w h => hts w (List.mem_cons_of_mem _ h)
  clear hts
  have hown : s.vm.findClass "ExactMeshModel" = some m.cls := findClass_of_methodNamed B.named
  have hlocks := B.notSynchronized
  have hl := lv_entry ([.ref (a 0), .int vx, .int vy]) (n := 4) (Nat.le_of_ble_eq_true rfl)
  rw [lg_entry_eq]
  generalize (lg_sl ([.ref (a 0), .int vx, .int vy]) ++ List.replicate (4 - (lg_sl ([.ref (a 0), .int vx, .int vy])).length) Slot.unset).toArray = ls at hl ⊢
  replace hl : lv_has ls 4 [(0, .ref (a 0)), (1, .int vx), (2, .int vy)] := hl
  refine ec_start (fun H locs hH hlocs => ?_)
  replace hP : va_P (dC, dI) vwCl (wR a cI cZ cJ rn rx ry rl rf rt rh gx gy rc w1 w2 w3 rg rk kc kf kp ++ rest) H := by rw [hH]; exact hP
  have hS : va_S A s.heap H locs := by rw [hH, hlocs]; exact va_S.rf
  clear hH hlocs
  have g12 := gS.1
  have gN := gS.2.1
  have grl := gS.2.2.2.1
  have gll := gS.links
  refine lv_iload_n hx hb d_R_vertex_0 rfl (lv_at hl 1 rfl) ?_
  refine lv_iload_n hx hb d_R_vertex_1 rfl (lv_at hl 2 rfl) ?_
  refine ec_sTSi (As := [.int vx, .int vy]) (rest := []) ⟨hx, hb, hml, hown, htb⟩ (c_R_far l vx vy) ks_R_far wd_509 ⟨Nat.le_of_ble_eq_true rfl, Nat.le_of_ble_eq_true rfl⟩ ⟨rfl, rfl⟩ rfl hl.1 rfl (Nat.le_of_ble_eq_true rfl) d_R_vertex_2 ⟨Nat.zero_le _, Nat.zero_le _⟩ (fun r2 hr2 => ?_)
  replace hr2 : ec_isB r2 (¬ ec_nr2 vx vy) := hr2
  refine ec_if_eqB (tgt := 11) hx hb hr2 d_R_vertex_5 rfl (fun h5 => ?_) (fun h5 => ?_)
  · refine lv_iconst (v := nI 0) hx hb d_R_vertex_11 (by decide) ?_
    refine lv_istore_n hx hb d_R_vertex_12 rfl hl (by decide) rfl (fun ls hl => ?_)
    replace hl : lv_has ls 4 [(3, .int (nI 0)), (0, .ref (a 0)), (1, .int vx), (2, .int vy)] := hl
    obtain ⟨t, e_t⟩ : ∃ z : Nat, z = 0 := ⟨_, rfl⟩
    replace hl : lv_has ls 4 [(0, .ref (a 0)), (1, .int vx), (2, .int vy), (3, .int (nI t))] := by (try simp only [e_t]); exact lv_sub hl [1, 2, 3, 0] rfl
    have hle : t ≤ rn := by omega
    have hI : ∀ v, v < t → ¬ (rx v = vx ∧ ry v = vy) := by exact fun v hv => by omega
    clear e_t
    generalize hk13 : rn - t = k13
    induction k13 using Nat.strongRecOn generalizing t ls H locs with
    | ind k13 ih13 =>
    refine lv_iload_n hx hb d_R_vertex_13 rfl (lv_at hl 3 rfl) ?_
    refine lv_aload_n hx hb d_R_vertex_14 rfl (lv_at hl 0 rfl) ?_
    refine va_get (D := (dC, dI)) (ci := 5) (v := .int (nI rn)) (C := R_R) (T := T_R) (N := 18) hx hb htb in_R hown hK hP 0 rfl rfl 0 (by decide) (htb _ wd_449) (fun _ h9 => h9) rfl d_R_vertex_15 ?_
    refine ec_icmp_ge (tgt := 49) hx hb d_R_vertex_18 rfl (by omega) (by omega) (fun h18 => ?_) (fun h18 => ?_)
    · refine lv_aload_n hx hb d_R_vertex_49 rfl (lv_at hl 0 rfl) ?_
      refine va_get (D := (dC, dI)) (ci := 5) (v := .int (nI rn)) (C := R_R) (T := T_R) (N := 18) hx hb htb in_R hown hK hP 0 rfl rfl 0 (by decide) (htb _ wd_449) (fun _ h9 => h9) rfl d_R_vertex_50 ?_
      refine lv_bipush (v := nI 12) hx hb d_R_vertex_53 (by decide) ?_
      refine ec_icmp_ne (tgt := 61) hx hb d_R_vertex_55 rfl (by omega) (by omega) (fun h55 => ?_) (fun h55 => ?_)
      · refine lv_iconst (v := nI 0) hx hb d_R_vertex_61 (by decide) ?_
        refine lv_istore_n hx hb d_R_vertex_62 rfl hl (by decide) rfl (fun ls hl => ?_)
        replace hl : lv_has ls 4 [(3, .int (nI 0)), (0, .ref (a 0)), (1, .int vx), (2, .int vy)] := hl
        obtain ⟨k, e_k⟩ : ∃ z : Nat, z = 0 := ⟨_, rfl⟩
        replace hl : lv_has ls 4 [(0, .ref (a 0)), (1, .int vx), (2, .int vy), (3, .int (nI k))] := by (try simp only [e_k]); exact lv_sub hl [1, 2, 3, 0] rfl
        have hle2 : k ≤ rl := by omega
        have hI2 : ∀ v, v < k → ¬ ec_onL rx ry rf rt vx vy v := by exact fun v hv => by omega
        clear e_k
        generalize hk63 : rl - k = k63
        induction k63 using Nat.strongRecOn generalizing k ls H locs with
        | ind k63 ih63 =>
        refine lv_iload_n hx hb d_R_vertex_63 rfl (lv_at hl 3 rfl) ?_
        refine lv_aload_n hx hb d_R_vertex_64 rfl (lv_at hl 0 rfl) ?_
        refine va_get (D := (dC, dI)) (ci := 5) (v := .int (nI rl)) (C := R_R) (T := T_R) (N := 18) hx hb htb in_R hown hK hP 0 rfl rfl 3 (by decide) (htb _ wd_452) (fun _ h9 => h9) rfl d_R_vertex_65 ?_
        refine ec_icmp_ge (tgt := 103) hx hb d_R_vertex_68 rfl (by omega) (by omega) (fun h68 => ?_) (fun h68 => ?_)
        · refine lv_aload_n hx hb d_R_vertex_103 rfl (lv_at hl 0 rfl) ?_
          refine va_get (D := (dC, dI)) (ci := 5) (v := .ref (a 1)) (C := R_R) (T := T_R) (N := 18) hx hb htb in_R hown hK hP 0 rfl rfl 1 (by decide) (htb _ wd_450) (fun _ h9 => h9) rfl d_R_vertex_104 ?_
          refine lv_aload_n hx hb d_R_vertex_107 rfl (lv_at hl 0 rfl) ?_
          refine va_get (D := (dC, dI)) (ci := 5) (v := .int (nI rn)) (C := R_R) (T := T_R) (N := 18) hx hb htb in_R hown hK hP 0 rfl rfl 0 (by decide) (htb _ wd_449) (fun _ h9 => h9) rfl d_R_vertex_108 ?_
          refine lv_iload_n hx hb d_R_vertex_111 rfl (lv_at hl 1 rfl) ?_
          refine ec_iast (f := rx) (i := rn) hx hb hK hP hD hS 1 0 rfl rfl (by omega) (by decide) d_R_vertex_112 (fun H locs hP hD hS => ?_)
          replace hP : va_P (dC, dI) vwCl (wR a cI cZ cJ rn (upd rx rn vx) ry rl rf rt rh gx gy rc w1 w2 w3 rg rk kc kf kp ++ rest) H := hP
          replace hD : va_D A (wR a cI cZ cJ rn (upd rx rn vx) ry rl rf rt rh gx gy rc w1 w2 w3 rg rk kc kf kp ++ rest) := hD
          refine lv_aload_n hx hb d_R_vertex_113 rfl (lv_at hl 0 rfl) ?_
          refine va_get (D := (dC, dI)) (ci := 5) (v := .ref (a 2)) (C := R_R) (T := T_R) (N := 18) hx hb htb in_R hown hK hP 0 rfl rfl 2 (by decide) (htb _ wd_451) (fun _ h9 => h9) rfl d_R_vertex_114 ?_
          refine lv_aload_n hx hb d_R_vertex_117 rfl (lv_at hl 0 rfl) ?_
          refine va_get (D := (dC, dI)) (ci := 5) (v := .int (nI rn)) (C := R_R) (T := T_R) (N := 18) hx hb htb in_R hown hK hP 0 rfl rfl 0 (by decide) (htb _ wd_449) (fun _ h9 => h9) rfl d_R_vertex_118 ?_
          refine lv_iload_n hx hb d_R_vertex_121 rfl (lv_at hl 2 rfl) ?_
          refine ec_iast (f := ry) (i := rn) hx hb hK hP hD hS 2 0 rfl rfl (by omega) (by decide) d_R_vertex_122 (fun H locs hP hD hS => ?_)
          replace hP : va_P (dC, dI) vwCl (wR a cI cZ cJ rn (upd rx rn vx) (upd ry rn vy) rl rf rt rh gx gy rc w1 w2 w3 rg rk kc kf kp ++ rest) H := hP
          replace hD : va_D A (wR a cI cZ cJ rn (upd rx rn vx) (upd ry rn vy) rl rf rt rh gx gy rc w1 w2 w3 rg rk kc kf kp ++ rest) := hD
          refine lv_aload_n hx hb d_R_vertex_123 rfl (lv_at hl 0 rfl) ?_
          refine lv_dup hx hb d_R_vertex_124 rfl ?_
          refine va_get (D := (dC, dI)) (ci := 5) (v := .int (nI rn)) (C := R_R) (T := T_R) (N := 18) hx hb htb in_R hown hK hP 0 rfl rfl 0 (by decide) (htb _ wd_449) (fun _ h9 => h9) rfl d_R_vertex_125 ?_
          refine lv_iconst (v := nI 1) hx hb d_R_vertex_128 (by decide) ?_
          refine ec_iadd hx hb d_R_vertex_129 ?_
          refine va_put (D := (dC, dI)) (ci := 5) (v := .int (nI (rn + 1))) (ty := .int) (C := R_R) (T := T_R) (N := 18) hx hb htb in_R t_R ty_R nm_R hown hK hP hD hS 0 rfl rfl 0 (by decide) (htb _ wd_449) (fun _ h9 => h9) rfl (by decide +kernel) rfl rfl (Nat.le_of_ble_eq_true rfl) d_R_vertex_130 (fun H locs hP hD hS => ?_)
          replace hP : va_P (dC, dI) vwCl (wR a cI cZ cJ (rn + 1) (upd rx rn vx) (upd ry rn vy) rl rf rt rh gx gy rc w1 w2 w3 rg rk kc kf kp ++ rest) H := hP
          replace hD : va_D A (wR a cI cZ cJ (rn + 1) (upd rx rn vx) (upd ry rn vy) rl rf rt rh gx gy rc w1 w2 w3 rg rk kc kf kp ++ rest) := hD
          refine lv_aload_n hx hb d_R_vertex_133 rfl (lv_at hl 0 rfl) ?_
          refine va_get (D := (dC, dI)) (ci := 5) (v := .int (nI (rn + 1))) (C := R_R) (T := T_R) (N := 18) hx hb htb in_R hown hK hP 0 rfl rfl 0 (by decide) (htb _ wd_449) (fun _ h9 => h9) rfl d_R_vertex_134 ?_
          refine lv_iconst (v := nI 1) hx hb d_R_vertex_137 (by decide) ?_
          refine ec_isub hx hb d_R_vertex_138 (by omega) ?_
          exact W.iret hx hb hr (fun tS ht hW => ⟨⟨_, (rn + 1, upd rx rn vx, upd ry rn vy), rfl, (ec_vertF_new (Classical.byContradiction h5) (fun ⟨v, hv, q1, q2⟩ => hI v (by omega) ⟨q1, q2⟩) (by omega) (fun ⟨v, hv, q⟩ => hI2 v (by omega) q)), by show va_P _ _ _ tS.heap; rw [ht]; exact hP⟩, hS.F ht⟩) hS.2.2 d_R_vertex_139
        · have q0 := gll k (by omega)
          refine lv_aload_n hx hb d_R_vertex_71 rfl (lv_at hl 0 rfl) ?_
          refine lv_aload_n hx hb d_R_vertex_72 rfl (lv_at hl 0 rfl) ?_
          refine va_get (D := (dC, dI)) (ci := 5) (v := .ref (a 3)) (C := R_R) (T := T_R) (N := 18) hx hb htb in_R hown hK hP 0 rfl rfl 4 (by decide) (htb _ wd_453) (fun _ h9 => h9) rfl d_R_vertex_73 ?_
          refine lv_iload_n hx hb d_R_vertex_76 rfl (lv_at hl 3 rfl) ?_
          refine ec_ialdN (f := rf) (i := k) hx hb hK hP 3 0 rfl rfl (by omega) (by decide) d_R_vertex_77 ?_
          refine lv_aload_n hx hb d_R_vertex_78 rfl (lv_at hl 0 rfl) ?_
          refine va_get (D := (dC, dI)) (ci := 5) (v := .ref (a 4)) (C := R_R) (T := T_R) (N := 18) hx hb htb in_R hown hK hP 0 rfl rfl 5 (by decide) (htb _ wd_454) (fun _ h9 => h9) rfl d_R_vertex_79 ?_
          refine lv_iload_n hx hb d_R_vertex_82 rfl (lv_at hl 3 rfl) ?_
          refine ec_ialdN (f := rt) (i := k) hx hb hK hP 4 0 rfl rfl (by omega) (by decide) d_R_vertex_83 ?_
          refine lv_iload_n hx hb d_R_vertex_84 rfl (lv_at hl 1 rfl) ?_
          refine lv_i2l hx hb d_R_vertex_85 rfl ?_
          refine lv_iload_n hx hb d_R_vertex_86 rfl (lv_at hl 2 rfl) ?_
          refine lv_i2l hx hb d_R_vertex_87 rfl ?_
          refine ec_vSi (C := "ExactMeshModel") (ci := 5) (q := (R_R, T_R, 18)) (q0 := 0) (As := [.int (nI (rf k)), .int (nI (rt k)), .long vx.toInt64, .long vy.toInt64]) (rest := []) ⟨hx, hb, hml, hown, htb⟩ (c_R_on l dC dI a cI cZ cJ rn rx ry rl rf rt rh gx gy rc w1 w2 w3 rg rk kc kf kp rest (rf k) (rt k) vx vy g12 gN (by omega) (by omega) (Classical.byContradiction h5).1 (Classical.byContradiction h5).2) kv_R_on hK hP rfl rfl rfl wd_514 ⟨Nat.le_of_ble_eq_true rfl, Nat.le_of_ble_eq_true rfl⟩ ⟨rfl, rfl⟩ rfl hl.1 rfl (Nat.le_of_ble_eq_true rfl) d_R_vertex_88 ⟨Nat.zero_le _, Nat.zero_le _⟩ (fun r88 hr88 => ?_)
          replace hr88 : ec_isB r88 (ec_on (rx (rf k)).toInt (ry (rf k)).toInt (rx (rt k)).toInt (ry (rt k)).toInt vx.toInt vy.toInt) := hr88
          refine ec_if_eqB (tgt := 97) hx hb hr88 d_R_vertex_91 rfl (fun h91 => ?_) (fun h91 => ?_)
          · refine ec_iinc (k := 3) hx hb d_R_vertex_97 hl rfl (by decide) rfl (fun ls hl => ?_)
            replace hl : lv_has ls 4 [(3, .int (nI (k + 1))), (0, .ref (a 0)), (1, .int vx), (2, .int vy)] := hl
            refine lv_goto (tgt := 63) hx hb d_R_vertex_100 rfl ?_
            exact ih63 _ (by omega) (k := k + 1) (ls := ls) (H := H) (locs := locs) (hS := hS) (hl := lv_sub hl [1, 2, 3, 0] rfl) (hP := hP) (hle2 := (by omega)) (hI2 := (lt_s hI2 h91)) (hk63 := rfl)
          · refine lv_bipush (v := -4) hx hb d_R_vertex_94 (by decide) ?_
            exact W.iret hx hb hr (fun tS ht hW => ⟨⟨_, (rn, rx, ry), rfl, (ec_vertF_on (Classical.byContradiction h5) (fun ⟨v, hv, q1, q2⟩ => hI v (by omega) ⟨q1, q2⟩) (by omega) ⟨k, h68, h91⟩), by show va_P _ _ _ tS.heap; rw [ht]; exact hP⟩, hS.F ht⟩) hS.2.2 d_R_vertex_96
      · refine lv_bipush (v := -3) hx hb d_R_vertex_58 (by decide) ?_
        exact W.iret hx hb hr (fun tS ht hW => ⟨⟨_, (rn, rx, ry), rfl, (ec_vertF_full (Classical.byContradiction h5) (fun ⟨v, hv, q1, q2⟩ => hI v (by omega) ⟨q1, q2⟩) (by omega)), by show va_P _ _ _ tS.heap; rw [ht]; exact hP⟩, hS.F ht⟩) hS.2.2 d_R_vertex_60
    · refine lv_aload_n hx hb d_R_vertex_21 rfl (lv_at hl 0 rfl) ?_
      refine va_get (D := (dC, dI)) (ci := 5) (v := .ref (a 1)) (C := R_R) (T := T_R) (N := 18) hx hb htb in_R hown hK hP 0 rfl rfl 1 (by decide) (htb _ wd_450) (fun _ h9 => h9) rfl d_R_vertex_22 ?_
      refine lv_iload_n hx hb d_R_vertex_25 rfl (lv_at hl 3 rfl) ?_
      refine ec_iald (f := rx) (i := t) hx hb hK hP 1 0 rfl rfl (by omega) (by decide) d_R_vertex_26 ?_
      refine lv_iload_n hx hb d_R_vertex_27 rfl (lv_at hl 1 rfl) ?_
      refine lv_icmp_ne (tgt := 43) hx hb d_R_vertex_28 rfl (fun h28 => ?_) (fun h28 => ?_)
      · refine ec_iinc (k := 3) hx hb d_R_vertex_43 hl rfl (by decide) rfl (fun ls hl => ?_)
        replace hl : lv_has ls 4 [(3, .int (nI (t + 1))), (0, .ref (a 0)), (1, .int vx), (2, .int vy)] := hl
        refine lv_goto (tgt := 13) hx hb d_R_vertex_46 rfl ?_
        exact ih13 _ (by omega) (t := t + 1) (ls := ls) (H := H) (locs := locs) (hS := hS) (hl := lv_sub hl [1, 2, 3, 0] rfl) (hP := hP) (hle := (by omega)) (hI := (lt_s hI (fun q => h28 q.1))) (hk13 := rfl)
      · refine lv_aload_n hx hb d_R_vertex_31 rfl (lv_at hl 0 rfl) ?_
        refine va_get (D := (dC, dI)) (ci := 5) (v := .ref (a 2)) (C := R_R) (T := T_R) (N := 18) hx hb htb in_R hown hK hP 0 rfl rfl 2 (by decide) (htb _ wd_451) (fun _ h9 => h9) rfl d_R_vertex_32 ?_
        refine lv_iload_n hx hb d_R_vertex_35 rfl (lv_at hl 3 rfl) ?_
        refine ec_iald (f := ry) (i := t) hx hb hK hP 2 0 rfl rfl (by omega) (by decide) d_R_vertex_36 ?_
        refine lv_iload_n hx hb d_R_vertex_37 rfl (lv_at hl 2 rfl) ?_
        refine lv_icmp_ne (tgt := 43) hx hb d_R_vertex_38 rfl (fun h38 => ?_) (fun h38 => ?_)
        · refine ec_iinc (k := 3) hx hb d_R_vertex_43 hl rfl (by decide) rfl (fun ls hl => ?_)
          replace hl : lv_has ls 4 [(3, .int (nI (t + 1))), (0, .ref (a 0)), (1, .int vx), (2, .int vy)] := hl
          refine lv_goto (tgt := 13) hx hb d_R_vertex_46 rfl ?_
          exact ih13 _ (by omega) (t := t + 1) (ls := ls) (H := H) (locs := locs) (hS := hS) (hl := lv_sub hl [1, 2, 3, 0] rfl) (hP := hP) (hle := (by omega)) (hI := (lt_s hI (fun q => h38 q.2))) (hk13 := rfl)
        · refine lv_iload_n hx hb d_R_vertex_41 rfl (lv_at hl 3 rfl) ?_
          exact W.iret hx hb hr (fun tS ht hW => ⟨⟨_, (rn, rx, ry), rfl, (ec_vertF_at (Classical.byContradiction h5) gS.2.2.1 h18 h28 h38), by show va_P _ _ _ tS.heap; rw [ht]; exact hP⟩, hS.F ht⟩) hS.2.2 d_R_vertex_42
  · refine lv_bipush (v := -2) hx hb d_R_vertex_8 (by decide) ?_
    exact W.iret hx hb hr (fun tS ht hW => ⟨⟨_, (rn, rx, ry), rfl, (ec_vertF_far h5), by show va_P _ _ _ tS.heap; rw [ht]; exact hP⟩, hS.F ht⟩) hS.2.2 d_R_vertex_10

set_option maxRecDepth 100000 in
set_option maxHeartbeats 4000000 in
theorem c_R_segment (l : Launch) (dC : Nat → ClassId) (dI : Nat → Nat → Nat) (a : Nat → Nat) (cI cZ cJ : ClassId) (rn : Nat) (rx : Nat → Int32) (ry : Nat → Int32) (rl : Nat) (rf : Nat → Nat) (rt : Nat → Nat) (rh : Nat) (gx : Nat → Int32) (gy : Nat → Int32) (rc : Nat) (w1 : Nat → Nat) (w2 : Nat → Nat) (w3 : Nat → Nat) (rg : Nat → Prop) (rk : Nat) (kc : Nat → Nat) (kf : Nat → Prop) (kp : Nat → Int64) (rest : va_W) (v : Int32) (w : Int32) (glr : Nat → Nat) (gS : ec_SI rn rx ry rl rf rt glr) (A : Nat → Prop) (hD : va_D A (wR a cI cZ cJ rn rx ry rl rf rt rh gx gy rc w1 w2 w3 rg rk kc kf kp ++ rest)) : Met l y_R_segment (Cond.code y_R_segment b_R_segment 4 (some .int) :: ec_tbl) ({ frames := 3, cells := 0, slots := 0, locals := 85 }) (va_Pc [.ref (a 0), .int v, .int w] (fun U => va_P (dC, dI) vwCl (wR a cI cZ cJ rn rx ry rl rf rt rh gx gy rc w1 w2 w3 rg rk kc kf kp ++ rest) U.heap ∧ va_K (dC, dI) vwCl (ec_tys cI cZ cJ) U)) (va_Qi (fun (r : Int32) (u : ec_G3) => (r, u) = ec_segF rn rx ry rl rf rt v w) (fun u t => va_P (dC, dI) vwCl (wR a cI cZ cJ rn rx ry u.1 u.2.1 u.2.2 rh gx gy rc w1 w2 w3 rg rk kc kf kp ++ rest) t.heap) A) 0 0 A := by
  refine Met.ofW (cc := b_R_segment) (maxL := 4) (ret := (some .int)) (by decide) rfl ?_
  intro p e s m args below meth c s₁ B hml hv0
  obtain ⟨rfl, hP, hK⟩ := hv0
  have hx := B.exec
  have hb := B.bytes
  have hr := B.returns
  have hts := atoms_spec (ws := (Cond.code y_R_segment b_R_segment 4 (some .int) :: ec_tbl)) B.pre
  have htb : ∀ w ∈ ec_tbl, w.before _ s = true := fun w h => hts w (List.mem_cons_of_mem _ h)
  clear hts
  have hown : s.vm.findClass "ExactMeshModel" = some m.cls := findClass_of_methodNamed B.named
  have hlocks := B.notSynchronized
  have hl := lv_entry ([.ref (a 0), .int v, .int w]) (n := 4) (Nat.le_of_ble_eq_true rfl)
  rw [lg_entry_eq]
  generalize (lg_sl ([.ref (a 0), .int v, .int w]) ++ List.replicate (4 - (lg_sl ([.ref (a 0), .int v, .int w])).length) Slot.unset).toArray = ls at hl ⊢
  replace hl : lv_has ls 4 [(0, .ref (a 0)), (1, .int v), (2, .int w)] := hl
  refine ec_start (fun H locs hH hlocs => ?_)
  replace hP : va_P (dC, dI) vwCl (wR a cI cZ cJ rn rx ry rl rf rt rh gx gy rc w1 w2 w3 rg rk kc kf kp ++ rest) H := by rw [hH]; exact hP
  have hS : va_S A s.heap H locs := by rw [hH, hlocs]; exact va_S.rf
  clear hH hlocs
  have g12 := gS.1
  have gN := gS.2.1
  have grl := gS.2.2.2.1
  have gll := gS.links
  refine lv_aload_n hx hb d_R_segment_0 rfl (lv_at hl 0 rfl) ?_
  refine lv_iload_n hx hb d_R_segment_1 rfl (lv_at hl 1 rfl) ?_
  refine ec_vSi (C := "ExactMeshModel") (ci := 5) (q := (R_R, T_R, 18)) (q0 := 0) (As := [.int v]) (rest := []) ⟨hx, hb, hml, hown, htb⟩ (c_R_isPoint l dC dI a cI cZ cJ rn rx ry rl rf rt rh gx gy rc w1 w2 w3 rg rk kc kf kp rest v g12) kv_R_isPoint hK hP rfl rfl rfl wd_529 ⟨Nat.le_of_ble_eq_true rfl, Nat.le_of_ble_eq_true rfl⟩ ⟨rfl, rfl⟩ rfl hl.1 rfl (Nat.le_of_ble_eq_true rfl) d_R_segment_2 ⟨Nat.zero_le _, Nat.zero_le _⟩ (fun r2 hr2 => ?_)
  replace hr2 : ec_isB r2 (0 ≤ v.toInt ∧ v.toInt < rn) := hr2
  refine ec_if_eqB (tgt := 21) hx hb hr2 d_R_segment_5 rfl (fun h5 => ?_) (fun h5 => ?_)
  · refine lv_bipush (v := -2) hx hb d_R_segment_21 (by decide) ?_
    exact W.iret hx hb hr (fun tS ht hW => ⟨⟨_, (rl, rf, rt), rfl, (ec_segF_arg (Or.inl h5)), by show va_P _ _ _ tS.heap; rw [ht]; exact hP⟩, hS.F ht⟩) hS.2.2 d_R_segment_23
  · refine lv_aload_n hx hb d_R_segment_8 rfl (lv_at hl 0 rfl) ?_
    refine lv_iload_n hx hb d_R_segment_9 rfl (lv_at hl 2 rfl) ?_
    refine ec_vSi (C := "ExactMeshModel") (ci := 5) (q := (R_R, T_R, 18)) (q0 := 0) (As := [.int w]) (rest := []) ⟨hx, hb, hml, hown, htb⟩ (c_R_isPoint l dC dI a cI cZ cJ rn rx ry rl rf rt rh gx gy rc w1 w2 w3 rg rk kc kf kp rest w g12) kv_R_isPoint hK hP rfl rfl rfl wd_529 ⟨Nat.le_of_ble_eq_true rfl, Nat.le_of_ble_eq_true rfl⟩ ⟨rfl, rfl⟩ rfl hl.1 rfl (Nat.le_of_ble_eq_true rfl) d_R_segment_10 ⟨Nat.zero_le _, Nat.zero_le _⟩ (fun r10 hr10 => ?_)
    replace hr10 : ec_isB r10 (0 ≤ w.toInt ∧ w.toInt < rn) := hr10
    refine ec_if_eqB (tgt := 21) hx hb hr10 d_R_segment_13 rfl (fun h13 => ?_) (fun h13 => ?_)
    · refine lv_bipush (v := -2) hx hb d_R_segment_21 (by decide) ?_
      exact W.iret hx hb hr (fun tS ht hW => ⟨⟨_, (rl, rf, rt), rfl, (ec_segF_arg (Or.inr (Or.inl h13))), by show va_P _ _ _ tS.heap; rw [ht]; exact hP⟩, hS.F ht⟩) hS.2.2 d_R_segment_23
    · refine lv_iload_n hx hb d_R_segment_16 rfl (lv_at hl 1 rfl) ?_
      refine lv_iload_n hx hb d_R_segment_17 rfl (lv_at hl 2 rfl) ?_
      refine lv_icmp_ne (tgt := 24) hx hb d_R_segment_18 rfl (fun h18 => ?_) (fun h18 => ?_)
      · obtain ⟨i, hi, hi2, rfl⟩ := ec_ofI h5
        obtain ⟨j, hj, hj2, rfl⟩ := ec_ofI h13
        refine lv_aload_n hx hb d_R_segment_24 rfl (lv_at hl 0 rfl) ?_
        refine lv_iload_n hx hb d_R_segment_25 rfl (lv_at hl 1 rfl) ?_
        refine lv_iload_n hx hb d_R_segment_26 rfl (lv_at hl 2 rfl) ?_
        refine ec_vSi (C := "ExactMeshModel") (ci := 5) (q := (R_R, T_R, 18)) (q0 := 0) (As := [.int (nI i), .int (nI j)]) (rest := []) ⟨hx, hb, hml, hown, htb⟩ (c_R_isLine l dC dI a cI cZ cJ rn rx ry rl rf rt rh gx gy rc w1 w2 w3 rg rk kc kf kp rest i j g12 grl gll (by omega) (by omega)) kv_R_isLine hK hP rfl rfl rfl wd_533 ⟨Nat.le_of_ble_eq_true rfl, Nat.le_of_ble_eq_true rfl⟩ ⟨rfl, rfl⟩ rfl hl.1 rfl (Nat.le_of_ble_eq_true rfl) d_R_segment_27 ⟨Nat.zero_le _, Nat.zero_le _⟩ (fun r27 hr27 => ?_)
        replace hr27 : ec_isB r27 (ec_E rl rf rt i j) := hr27
        refine ec_if_neB (tgt := 42) hx hb hr27 d_R_segment_30 rfl (fun h30 => ?_) (fun h30 => ?_)
        · refine lv_bipush (v := -3) hx hb d_R_segment_42 (by decide) ?_
          exact W.iret hx hb hr (fun tS ht hW => ⟨⟨_, (rl, rf, rt), rfl, (ec_segF_num hi hj g12 h18 (Or.inl h30)), by show va_P _ _ _ tS.heap; rw [ht]; exact hP⟩, hS.F ht⟩) hS.2.2 d_R_segment_44
        · refine lv_aload_n hx hb d_R_segment_33 rfl (lv_at hl 0 rfl) ?_
          refine va_get (D := (dC, dI)) (ci := 5) (v := .int (nI rl)) (C := R_R) (T := T_R) (N := 18) hx hb htb in_R hown hK hP 0 rfl rfl 3 (by decide) (htb _ wd_452) (fun _ h9 => h9) rfl d_R_segment_34 ?_
          refine lv_bipush (v := nI 10) hx hb d_R_segment_37 (by decide) ?_
          refine ec_icmp_ne (tgt := 45) hx hb d_R_segment_39 rfl (by omega) (by omega) (fun h39 => ?_) (fun h39 => ?_)
          · refine lv_iconst (v := nI 0) hx hb d_R_segment_45 (by decide) ?_
            refine lv_istore_n hx hb d_R_segment_46 rfl hl (by decide) rfl (fun ls hl => ?_)
            replace hl : lv_has ls 4 [(3, .int (nI 0)), (0, .ref (a 0)), (1, .int (nI i)), (2, .int (nI j))] := hl
            obtain ⟨t, e_t⟩ : ∃ z : Nat, z = 0 := ⟨_, rfl⟩
            replace hl : lv_has ls 4 [(0, .ref (a 0)), (1, .int (nI i)), (2, .int (nI j)), (3, .int (nI t))] := by (try simp only [e_t]); exact lv_sub hl [1, 2, 3, 0] rfl
            have hle : t ≤ rn := by omega
            have hI : ∀ v, v < t → ¬ (v ≠ i ∧ v ≠ j ∧ ge_Btw (ec_P rx ry i) (ec_P rx ry j) (ec_P rx ry v)) := by exact fun v hv => by omega
            clear e_t
            generalize hk47 : rn - t = k47
            induction k47 using Nat.strongRecOn generalizing t ls H locs with
            | ind k47 ih47 =>
            refine lv_iload_n hx hb d_R_segment_47 rfl (lv_at hl 3 rfl) ?_
            refine lv_aload_n hx hb d_R_segment_48 rfl (lv_at hl 0 rfl) ?_
            refine va_get (D := (dC, dI)) (ci := 5) (v := .int (nI rn)) (C := R_R) (T := T_R) (N := 18) hx hb htb in_R hown hK hP 0 rfl rfl 0 (by decide) (htb _ wd_449) (fun _ h9 => h9) rfl d_R_segment_49 ?_
            refine ec_icmp_ge (tgt := 97) hx hb d_R_segment_52 rfl (by omega) (by omega) (fun h52 => ?_) (fun h52 => ?_)
            · refine lv_iconst (v := nI 0) hx hb d_R_segment_97 (by decide) ?_
              refine lv_istore_n hx hb d_R_segment_98 rfl hl (by decide) rfl (fun ls hl => ?_)
              replace hl : lv_has ls 4 [(3, .int (nI 0)), (0, .ref (a 0)), (1, .int (nI i)), (2, .int (nI j))] := hl
              obtain ⟨k, e_k⟩ : ∃ z : Nat, z = 0 := ⟨_, rfl⟩
              replace hl : lv_has ls 4 [(0, .ref (a 0)), (1, .int (nI i)), (2, .int (nI j)), (3, .int (nI k))] := by (try simp only [e_k]); exact lv_sub hl [1, 2, 3, 0] rfl
              have hle2 : k ≤ rl := by omega
              have hI2 : ∀ v, v < k → ¬ ge_Cr (ec_P rx ry i) (ec_P rx ry j) (ec_P rx ry (rf v)) (ec_P rx ry (rt v)) := by exact fun v hv => by omega
              clear e_k
              generalize hk99 : rl - k = k99
              induction k99 using Nat.strongRecOn generalizing k ls H locs with
              | ind k99 ih99 =>
              refine lv_iload_n hx hb d_R_segment_99 rfl (lv_at hl 3 rfl) ?_
              refine lv_aload_n hx hb d_R_segment_100 rfl (lv_at hl 0 rfl) ?_
              refine va_get (D := (dC, dI)) (ci := 5) (v := .int (nI rl)) (C := R_R) (T := T_R) (N := 18) hx hb htb in_R hown hK hP 0 rfl rfl 3 (by decide) (htb _ wd_452) (fun _ h9 => h9) rfl d_R_segment_101 ?_
              refine ec_icmp_ge (tgt := 137) hx hb d_R_segment_104 rfl (by omega) (by omega) (fun h104 => ?_) (fun h104 => ?_)
              · refine lv_aload_n hx hb d_R_segment_137 rfl (lv_at hl 0 rfl) ?_
                refine va_get (D := (dC, dI)) (ci := 5) (v := .ref (a 3)) (C := R_R) (T := T_R) (N := 18) hx hb htb in_R hown hK hP 0 rfl rfl 4 (by decide) (htb _ wd_453) (fun _ h9 => h9) rfl d_R_segment_138 ?_
                refine lv_aload_n hx hb d_R_segment_141 rfl (lv_at hl 0 rfl) ?_
                refine va_get (D := (dC, dI)) (ci := 5) (v := .int (nI rl)) (C := R_R) (T := T_R) (N := 18) hx hb htb in_R hown hK hP 0 rfl rfl 3 (by decide) (htb _ wd_452) (fun _ h9 => h9) rfl d_R_segment_142 ?_
                refine lv_iload_n hx hb d_R_segment_145 rfl (lv_at hl 1 rfl) ?_
                refine ec_iastN (f := rf) (i := rl) (x := i) hx hb hK hP hD hS 3 0 rfl rfl rfl (by omega) (by decide) d_R_segment_146 (fun H locs hP hD hS => ?_)
                replace hP : va_P (dC, dI) vwCl (wR a cI cZ cJ rn rx ry rl (va_up rf rl i) rt rh gx gy rc w1 w2 w3 rg rk kc kf kp ++ rest) H := hP
                replace hD : va_D A (wR a cI cZ cJ rn rx ry rl (va_up rf rl i) rt rh gx gy rc w1 w2 w3 rg rk kc kf kp ++ rest) := hD
                refine lv_aload_n hx hb d_R_segment_147 rfl (lv_at hl 0 rfl) ?_
                refine va_get (D := (dC, dI)) (ci := 5) (v := .ref (a 4)) (C := R_R) (T := T_R) (N := 18) hx hb htb in_R hown hK hP 0 rfl rfl 5 (by decide) (htb _ wd_454) (fun _ h9 => h9) rfl d_R_segment_148 ?_
                refine lv_aload_n hx hb d_R_segment_151 rfl (lv_at hl 0 rfl) ?_
                refine va_get (D := (dC, dI)) (ci := 5) (v := .int (nI rl)) (C := R_R) (T := T_R) (N := 18) hx hb htb in_R hown hK hP 0 rfl rfl 3 (by decide) (htb _ wd_452) (fun _ h9 => h9) rfl d_R_segment_152 ?_
                refine lv_iload_n hx hb d_R_segment_155 rfl (lv_at hl 2 rfl) ?_
                refine ec_iastN (f := rt) (i := rl) (x := j) hx hb hK hP hD hS 4 0 rfl rfl rfl (by omega) (by decide) d_R_segment_156 (fun H locs hP hD hS => ?_)
                replace hP : va_P (dC, dI) vwCl (wR a cI cZ cJ rn rx ry rl (va_up rf rl i) (va_up rt rl j) rh gx gy rc w1 w2 w3 rg rk kc kf kp ++ rest) H := hP
                replace hD : va_D A (wR a cI cZ cJ rn rx ry rl (va_up rf rl i) (va_up rt rl j) rh gx gy rc w1 w2 w3 rg rk kc kf kp ++ rest) := hD
                refine lv_aload_n hx hb d_R_segment_157 rfl (lv_at hl 0 rfl) ?_
                refine lv_dup hx hb d_R_segment_158 rfl ?_
                refine va_get (D := (dC, dI)) (ci := 5) (v := .int (nI rl)) (C := R_R) (T := T_R) (N := 18) hx hb htb in_R hown hK hP 0 rfl rfl 3 (by decide) (htb _ wd_452) (fun _ h9 => h9) rfl d_R_segment_159 ?_
                refine lv_iconst (v := nI 1) hx hb d_R_segment_162 (by decide) ?_
                refine ec_iadd hx hb d_R_segment_163 ?_
                refine va_put (D := (dC, dI)) (ci := 5) (v := .int (nI (rl + 1))) (ty := .int) (C := R_R) (T := T_R) (N := 18) hx hb htb in_R t_R ty_R nm_R hown hK hP hD hS 0 rfl rfl 3 (by decide) (htb _ wd_452) (fun _ h9 => h9) rfl (by decide +kernel) rfl rfl (Nat.le_of_ble_eq_true rfl) d_R_segment_164 (fun H locs hP hD hS => ?_)
                replace hP : va_P (dC, dI) vwCl (wR a cI cZ cJ rn rx ry (rl + 1) (va_up rf rl i) (va_up rt rl j) rh gx gy rc w1 w2 w3 rg rk kc kf kp ++ rest) H := hP
                replace hD : va_D A (wR a cI cZ cJ rn rx ry (rl + 1) (va_up rf rl i) (va_up rt rl j) rh gx gy rc w1 w2 w3 rg rk kc kf kp ++ rest) := hD
                refine lv_aload_n hx hb d_R_segment_167 rfl (lv_at hl 0 rfl) ?_
                refine va_get (D := (dC, dI)) (ci := 5) (v := .int (nI (rl + 1))) (C := R_R) (T := T_R) (N := 18) hx hb htb in_R hown hK hP 0 rfl rfl 3 (by decide) (htb _ wd_452) (fun _ h9 => h9) rfl d_R_segment_168 ?_
                refine lv_iconst (v := nI 1) hx hb d_R_segment_171 (by decide) ?_
                refine ec_isub hx hb d_R_segment_172 (by omega) ?_
                exact W.iret hx hb hr (fun tS ht hW => ⟨⟨_, (rl + 1, va_up rf rl i, va_up rt rl j), rfl, (ec_segF_new hi hj g12 h18 (fun q => by rcases q with q | q; exact h30 q; omega) (fun ⟨v, hv, q⟩ => hI v (by omega) q) (fun ⟨v, hv, q⟩ => hI2 v (by omega) q)), by show va_P _ _ _ tS.heap; rw [ht]; exact hP⟩, hS.F ht⟩) hS.2.2 d_R_segment_173
              · have q0 := gll k (by omega)
                refine lv_aload_n hx hb d_R_segment_107 rfl (lv_at hl 0 rfl) ?_
                refine lv_iload_n hx hb d_R_segment_108 rfl (lv_at hl 1 rfl) ?_
                refine lv_iload_n hx hb d_R_segment_109 rfl (lv_at hl 2 rfl) ?_
                refine lv_aload_n hx hb d_R_segment_110 rfl (lv_at hl 0 rfl) ?_
                refine va_get (D := (dC, dI)) (ci := 5) (v := .ref (a 3)) (C := R_R) (T := T_R) (N := 18) hx hb htb in_R hown hK hP 0 rfl rfl 4 (by decide) (htb _ wd_453) (fun _ h9 => h9) rfl d_R_segment_111 ?_
                refine lv_iload_n hx hb d_R_segment_114 rfl (lv_at hl 3 rfl) ?_
                refine ec_ialdN (f := rf) (i := k) hx hb hK hP 3 0 rfl rfl (by omega) (by decide) d_R_segment_115 ?_
                refine lv_aload_n hx hb d_R_segment_116 rfl (lv_at hl 0 rfl) ?_
                refine va_get (D := (dC, dI)) (ci := 5) (v := .ref (a 4)) (C := R_R) (T := T_R) (N := 18) hx hb htb in_R hown hK hP 0 rfl rfl 5 (by decide) (htb _ wd_454) (fun _ h9 => h9) rfl d_R_segment_117 ?_
                refine lv_iload_n hx hb d_R_segment_120 rfl (lv_at hl 3 rfl) ?_
                refine ec_ialdN (f := rt) (i := k) hx hb hK hP 4 0 rfl rfl (by omega) (by decide) d_R_segment_121 ?_
                refine ec_vSi (C := "ExactMeshModel") (ci := 5) (q := (R_R, T_R, 18)) (q0 := 0) (As := [.int (nI i), .int (nI j), .int (nI (rf k)), .int (nI (rt k))]) (rest := []) ⟨hx, hb, hml, hown, htb⟩ (c_R_crosses l dC dI a cI cZ cJ rn rx ry rl rf rt rh gx gy rc w1 w2 w3 rg rk kc kf kp rest i j (rf k) (rt k) g12 gN (by omega) (by omega) (by omega) (by omega)) kv_R_crosses hK hP rfl rfl rfl wd_537 ⟨Nat.le_of_ble_eq_true rfl, Nat.le_of_ble_eq_true rfl⟩ ⟨rfl, rfl⟩ rfl hl.1 rfl (Nat.le_of_ble_eq_true rfl) d_R_segment_122 ⟨Nat.zero_le _, Nat.zero_le _⟩ (fun r122 hr122 => ?_)
                replace hr122 : ec_isB r122 (ge_Cr (ec_P rx ry i) (ec_P rx ry j) (ec_P rx ry (rf k)) (ec_P rx ry (rt k))) := hr122
                refine ec_if_eqB (tgt := 131) hx hb hr122 d_R_segment_125 rfl (fun h125 => ?_) (fun h125 => ?_)
                · refine ec_iinc (k := 3) hx hb d_R_segment_131 hl rfl (by decide) rfl (fun ls hl => ?_)
                  replace hl : lv_has ls 4 [(3, .int (nI (k + 1))), (0, .ref (a 0)), (1, .int (nI i)), (2, .int (nI j))] := hl
                  refine lv_goto (tgt := 99) hx hb d_R_segment_134 rfl ?_
                  exact ih99 _ (by omega) (k := k + 1) (ls := ls) (H := H) (locs := locs) (hS := hS) (hl := lv_sub hl [1, 2, 3, 0] rfl) (hP := hP) (hle2 := (by omega)) (hI2 := (lt_s hI2 h125)) (hk99 := rfl)
                · refine lv_bipush (v := -5) hx hb d_R_segment_128 (by decide) ?_
                  exact W.iret hx hb hr (fun tS ht hW => ⟨⟨_, (rl, rf, rt), rfl, (ec_segF_cr hi hj g12 h18 (fun q => by rcases q with q | q; exact h30 q; omega) (fun ⟨v, hv, q⟩ => hI v (by omega) q) ⟨k, h104, h125⟩), by show va_P _ _ _ tS.heap; rw [ht]; exact hP⟩, hS.F ht⟩) hS.2.2 d_R_segment_130
            · refine lv_iload_n hx hb d_R_segment_55 rfl (lv_at hl 3 rfl) ?_
              refine lv_iload_n hx hb d_R_segment_56 rfl (lv_at hl 1 rfl) ?_
              refine ec_icmp_eq (tgt := 91) hx hb d_R_segment_57 rfl (by omega) (by omega) (fun h57 => ?_) (fun h57 => ?_)
              · refine ec_iinc (k := 3) hx hb d_R_segment_91 hl rfl (by decide) rfl (fun ls hl => ?_)
                replace hl : lv_has ls 4 [(3, .int (nI (t + 1))), (0, .ref (a 0)), (1, .int (nI i)), (2, .int (nI j))] := hl
                refine lv_goto (tgt := 47) hx hb d_R_segment_94 rfl ?_
                exact ih47 _ (by omega) (t := t + 1) (ls := ls) (H := H) (locs := locs) (hS := hS) (hl := lv_sub hl [1, 2, 3, 0] rfl) (hP := hP) (hle := (by omega)) (hI := (lt_s hI (fun q => q.1 h57))) (hk47 := rfl)
              · refine lv_iload_n hx hb d_R_segment_60 rfl (lv_at hl 3 rfl) ?_
                refine lv_iload_n hx hb d_R_segment_61 rfl (lv_at hl 2 rfl) ?_
                refine ec_icmp_eq (tgt := 91) hx hb d_R_segment_62 rfl (by omega) (by omega) (fun h62 => ?_) (fun h62 => ?_)
                · refine ec_iinc (k := 3) hx hb d_R_segment_91 hl rfl (by decide) rfl (fun ls hl => ?_)
                  replace hl : lv_has ls 4 [(3, .int (nI (t + 1))), (0, .ref (a 0)), (1, .int (nI i)), (2, .int (nI j))] := hl
                  refine lv_goto (tgt := 47) hx hb d_R_segment_94 rfl ?_
                  exact ih47 _ (by omega) (t := t + 1) (ls := ls) (H := H) (locs := locs) (hS := hS) (hl := lv_sub hl [1, 2, 3, 0] rfl) (hP := hP) (hle := (by omega)) (hI := (lt_s hI (fun q => q.2.1 h62))) (hk47 := rfl)
                · refine lv_aload_n hx hb d_R_segment_65 rfl (lv_at hl 0 rfl) ?_
                  refine lv_iload_n hx hb d_R_segment_66 rfl (lv_at hl 1 rfl) ?_
                  refine lv_iload_n hx hb d_R_segment_67 rfl (lv_at hl 2 rfl) ?_
                  refine lv_aload_n hx hb d_R_segment_68 rfl (lv_at hl 0 rfl) ?_
                  refine va_get (D := (dC, dI)) (ci := 5) (v := .ref (a 1)) (C := R_R) (T := T_R) (N := 18) hx hb htb in_R hown hK hP 0 rfl rfl 1 (by decide) (htb _ wd_450) (fun _ h9 => h9) rfl d_R_segment_69 ?_
                  refine lv_iload_n hx hb d_R_segment_72 rfl (lv_at hl 3 rfl) ?_
                  refine ec_iald (f := rx) (i := t) hx hb hK hP 1 0 rfl rfl (by omega) (by decide) d_R_segment_73 ?_
                  refine lv_i2l hx hb d_R_segment_74 rfl ?_
                  refine lv_aload_n hx hb d_R_segment_75 rfl (lv_at hl 0 rfl) ?_
                  refine va_get (D := (dC, dI)) (ci := 5) (v := .ref (a 2)) (C := R_R) (T := T_R) (N := 18) hx hb htb in_R hown hK hP 0 rfl rfl 2 (by decide) (htb _ wd_451) (fun _ h9 => h9) rfl d_R_segment_76 ?_
                  refine lv_iload_n hx hb d_R_segment_79 rfl (lv_at hl 3 rfl) ?_
                  refine ec_iald (f := ry) (i := t) hx hb hK hP 2 0 rfl rfl (by omega) (by decide) d_R_segment_80 ?_
                  refine lv_i2l hx hb d_R_segment_81 rfl ?_
                  refine ec_vSi (C := "ExactMeshModel") (ci := 5) (q := (R_R, T_R, 18)) (q0 := 0) (As := [.int (nI i), .int (nI j), .long ((rx t).toInt64), .long ((ry t).toInt64)]) (rest := []) ⟨hx, hb, hml, hown, htb⟩ (c_R_on l dC dI a cI cZ cJ rn rx ry rl rf rt rh gx gy rc w1 w2 w3 rg rk kc kf kp rest i j (rx t) (ry t) g12 gN (by omega) (by omega) (gN t h52).1 (gN t h52).2) kv_R_on hK hP rfl rfl rfl wd_514 ⟨Nat.le_of_ble_eq_true rfl, Nat.le_of_ble_eq_true rfl⟩ ⟨rfl, rfl⟩ rfl hl.1 rfl (Nat.le_of_ble_eq_true rfl) d_R_segment_82 ⟨Nat.zero_le _, Nat.zero_le _⟩ (fun r82 hr82 => ?_)
                  replace hr82 : ec_isB r82 (ec_on (rx i).toInt (ry i).toInt (rx j).toInt (ry j).toInt (rx t).toInt (ry t).toInt) := hr82
                  refine ec_if_eqB (tgt := 91) hx hb hr82 d_R_segment_85 rfl (fun h85 => ?_) (fun h85 => ?_)
                  · refine ec_iinc (k := 3) hx hb d_R_segment_91 hl rfl (by decide) rfl (fun ls hl => ?_)
                    replace hl : lv_has ls 4 [(3, .int (nI (t + 1))), (0, .ref (a 0)), (1, .int (nI i)), (2, .int (nI j))] := hl
                    refine lv_goto (tgt := 47) hx hb d_R_segment_94 rfl ?_
                    exact ih47 _ (by omega) (t := t + 1) (ls := ls) (H := H) (locs := locs) (hS := hS) (hl := lv_sub hl [1, 2, 3, 0] rfl) (hP := hP) (hle := (by omega)) (hI := (lt_s hI (fun q => h85 q.2.2))) (hk47 := rfl)
                  · refine lv_bipush (v := -4) hx hb d_R_segment_88 (by decide) ?_
                    exact W.iret hx hb hr (fun tS ht hW => ⟨⟨_, (rl, rf, rt), rfl, (ec_segF_btw hi hj g12 h18 (fun q => by rcases q with q | q; exact h30 q; omega) ⟨t, h52, h57, h62, h85⟩), by show va_P _ _ _ tS.heap; rw [ht]; exact hP⟩, hS.F ht⟩) hS.2.2 d_R_segment_90
          · refine lv_bipush (v := -3) hx hb d_R_segment_42 (by decide) ?_
            exact W.iret hx hb hr (fun tS ht hW => ⟨⟨_, (rl, rf, rt), rfl, (ec_segF_num hi hj g12 h18 (Or.inr (by omega))), by show va_P _ _ _ tS.heap; rw [ht]; exact hP⟩, hS.F ht⟩) hS.2.2 d_R_segment_44
      · refine lv_bipush (v := -2) hx hb d_R_segment_21 (by decide) ?_
        exact W.iret hx hb hr (fun tS ht hW => ⟨⟨_, (rl, rf, rt), rfl, (ec_segF_arg (Or.inr (Or.inr h18))), by show va_P _ _ _ tS.heap; rw [ht]; exact hP⟩, hS.F ht⟩) hS.2.2 d_R_segment_23

set_option maxRecDepth 100000 in
set_option maxHeartbeats 4000000 in
theorem c_R_hole (l : Launch) (dC : Nat → ClassId) (dI : Nat → Nat → Nat) (a : Nat → Nat) (cI cZ cJ : ClassId) (rn : Nat) (rx : Nat → Int32) (ry : Nat → Int32) (rl : Nat) (rf : Nat → Nat) (rt : Nat → Nat) (rh : Nat) (gx : Nat → Int32) (gy : Nat → Int32) (rc : Nat) (w1 : Nat → Nat) (w2 : Nat → Nat) (w3 : Nat → Nat) (rg : Nat → Prop) (rk : Nat) (kc : Nat → Nat) (kf : Nat → Prop) (kp : Nat → Int64) (rest : va_W) (vx : Int32) (vy : Int32) (g3 : rh ≤ 3) (A : Nat → Prop) (hD : va_D A (wR a cI cZ cJ rn rx ry rl rf rt rh gx gy rc w1 w2 w3 rg rk kc kf kp ++ rest)) : Met l y_R_hole (Cond.code y_R_hole b_R_hole 3 (some .int) :: ec_tbl) ({ frames := 1, cells := 0, slots := 0, locals := 21 }) (va_Pc [.ref (a 0), .int vx, .int vy] (fun U => va_P (dC, dI) vwCl (wR a cI cZ cJ rn rx ry rl rf rt rh gx gy rc w1 w2 w3 rg rk kc kf kp ++ rest) U.heap ∧ va_K (dC, dI) vwCl (ec_tys cI cZ cJ) U)) (va_Qi (fun (r : Int32) (u : ec_V) => (r, u) = ec_holF rh gx gy vx vy) (fun u t => va_P (dC, dI) vwCl (wR a cI cZ cJ rn rx ry rl rf rt u.1 u.2.1 u.2.2 rc w1 w2 w3 rg rk kc kf kp ++ rest) t.heap) A) 0 0 A := by
  refine Met.ofW (cc := b_R_hole) (maxL := 3) (ret := (some .int)) (by decide) rfl ?_
  intro p e s m args below meth c s₁ B hml hv0
  obtain ⟨rfl, hP, hK⟩ := hv0
  have hx := B.exec
  have hb := B.bytes
  have hr := B.returns
  have hts := atoms_spec (ws := (Cond.code y_R_hole b_R_hole 3 (some .int) :: ec_tbl)) B.pre
  have htb : ∀ w ∈ ec_tbl, w.before _ s = true := fun w h => hts w (List.mem_cons_of_mem _ h)
  clear hts
  have hown : s.vm.findClass "ExactMeshModel" = some m.cls := findClass_of_methodNamed B.named
  have hlocks := B.notSynchronized
  have hl := lv_entry ([.ref (a 0), .int vx, .int vy]) (n := 3) (Nat.le_of_ble_eq_true rfl)
  rw [lg_entry_eq]
  generalize (lg_sl ([.ref (a 0), .int vx, .int vy]) ++ List.replicate (3 - (lg_sl ([.ref (a 0), .int vx, .int vy])).length) Slot.unset).toArray = ls at hl ⊢
  replace hl : lv_has ls 3 [(0, .ref (a 0)), (1, .int vx), (2, .int vy)] := hl
  refine ec_start (fun H locs hH hlocs => ?_)
  replace hP : va_P (dC, dI) vwCl (wR a cI cZ cJ rn rx ry rl rf rt rh gx gy rc w1 w2 w3 rg rk kc kf kp ++ rest) H := by rw [hH]; exact hP
  have hS : va_S A s.heap H locs := by rw [hH, hlocs]; exact va_S.rf
  clear hH hlocs
  refine lv_iload_n hx hb d_R_hole_0 rfl (lv_at hl 1 rfl) ?_
  refine lv_iload_n hx hb d_R_hole_1 rfl (lv_at hl 2 rfl) ?_
  refine ec_sTSi (As := [.int vx, .int vy]) (rest := []) ⟨hx, hb, hml, hown, htb⟩ (c_R_far l vx vy) ks_R_far wd_509 ⟨Nat.le_of_ble_eq_true rfl, Nat.le_of_ble_eq_true rfl⟩ ⟨rfl, rfl⟩ rfl hl.1 rfl (Nat.le_of_ble_eq_true rfl) d_R_hole_2 ⟨Nat.zero_le _, Nat.zero_le _⟩ (fun r2 hr2 => ?_)
  replace hr2 : ec_isB r2 (¬ ec_nr2 vx vy) := hr2
  refine ec_if_eqB (tgt := 11) hx hb hr2 d_R_hole_5 rfl (fun h5 => ?_) (fun h5 => ?_)
  · refine lv_aload_n hx hb d_R_hole_11 rfl (lv_at hl 0 rfl) ?_
    refine va_get (D := (dC, dI)) (ci := 5) (v := .int (nI rh)) (C := R_R) (T := T_R) (N := 18) hx hb htb in_R hown hK hP 0 rfl rfl 6 (by decide) (htb _ wd_455) (fun _ h9 => h9) rfl d_R_hole_12 ?_
    refine lv_iconst (v := nI 3) hx hb d_R_hole_15 (by decide) ?_
    refine ec_icmp_ne (tgt := 22) hx hb d_R_hole_16 rfl (by omega) (by omega) (fun h16 => ?_) (fun h16 => ?_)
    · refine lv_aload_n hx hb d_R_hole_22 rfl (lv_at hl 0 rfl) ?_
      refine va_get (D := (dC, dI)) (ci := 5) (v := .ref (a 5)) (C := R_R) (T := T_R) (N := 18) hx hb htb in_R hown hK hP 0 rfl rfl 7 (by decide) (htb _ wd_456) (fun _ h9 => h9) rfl d_R_hole_23 ?_
      refine lv_aload_n hx hb d_R_hole_26 rfl (lv_at hl 0 rfl) ?_
      refine va_get (D := (dC, dI)) (ci := 5) (v := .int (nI rh)) (C := R_R) (T := T_R) (N := 18) hx hb htb in_R hown hK hP 0 rfl rfl 6 (by decide) (htb _ wd_455) (fun _ h9 => h9) rfl d_R_hole_27 ?_
      refine lv_iload_n hx hb d_R_hole_30 rfl (lv_at hl 1 rfl) ?_
      refine ec_iast (f := gx) (i := rh) hx hb hK hP hD hS 5 0 rfl rfl (by omega) (by decide) d_R_hole_31 (fun H locs hP hD hS => ?_)
      replace hP : va_P (dC, dI) vwCl (wR a cI cZ cJ rn rx ry rl rf rt rh (upd gx rh vx) gy rc w1 w2 w3 rg rk kc kf kp ++ rest) H := hP
      replace hD : va_D A (wR a cI cZ cJ rn rx ry rl rf rt rh (upd gx rh vx) gy rc w1 w2 w3 rg rk kc kf kp ++ rest) := hD
      refine lv_aload_n hx hb d_R_hole_32 rfl (lv_at hl 0 rfl) ?_
      refine va_get (D := (dC, dI)) (ci := 5) (v := .ref (a 6)) (C := R_R) (T := T_R) (N := 18) hx hb htb in_R hown hK hP 0 rfl rfl 8 (by decide) (htb _ wd_457) (fun _ h9 => h9) rfl d_R_hole_33 ?_
      refine lv_aload_n hx hb d_R_hole_36 rfl (lv_at hl 0 rfl) ?_
      refine va_get (D := (dC, dI)) (ci := 5) (v := .int (nI rh)) (C := R_R) (T := T_R) (N := 18) hx hb htb in_R hown hK hP 0 rfl rfl 6 (by decide) (htb _ wd_455) (fun _ h9 => h9) rfl d_R_hole_37 ?_
      refine lv_iload_n hx hb d_R_hole_40 rfl (lv_at hl 2 rfl) ?_
      refine ec_iast (f := gy) (i := rh) hx hb hK hP hD hS 6 0 rfl rfl (by omega) (by decide) d_R_hole_41 (fun H locs hP hD hS => ?_)
      replace hP : va_P (dC, dI) vwCl (wR a cI cZ cJ rn rx ry rl rf rt rh (upd gx rh vx) (upd gy rh vy) rc w1 w2 w3 rg rk kc kf kp ++ rest) H := hP
      replace hD : va_D A (wR a cI cZ cJ rn rx ry rl rf rt rh (upd gx rh vx) (upd gy rh vy) rc w1 w2 w3 rg rk kc kf kp ++ rest) := hD
      refine lv_aload_n hx hb d_R_hole_42 rfl (lv_at hl 0 rfl) ?_
      refine lv_dup hx hb d_R_hole_43 rfl ?_
      refine va_get (D := (dC, dI)) (ci := 5) (v := .int (nI rh)) (C := R_R) (T := T_R) (N := 18) hx hb htb in_R hown hK hP 0 rfl rfl 6 (by decide) (htb _ wd_455) (fun _ h9 => h9) rfl d_R_hole_44 ?_
      refine lv_iconst (v := nI 1) hx hb d_R_hole_47 (by decide) ?_
      refine ec_iadd hx hb d_R_hole_48 ?_
      refine va_put (D := (dC, dI)) (ci := 5) (v := .int (nI (rh + 1))) (ty := .int) (C := R_R) (T := T_R) (N := 18) hx hb htb in_R t_R ty_R nm_R hown hK hP hD hS 0 rfl rfl 6 (by decide) (htb _ wd_455) (fun _ h9 => h9) rfl (by decide +kernel) rfl rfl (Nat.le_of_ble_eq_true rfl) d_R_hole_49 (fun H locs hP hD hS => ?_)
      replace hP : va_P (dC, dI) vwCl (wR a cI cZ cJ rn rx ry rl rf rt (rh + 1) (upd gx rh vx) (upd gy rh vy) rc w1 w2 w3 rg rk kc kf kp ++ rest) H := hP
      replace hD : va_D A (wR a cI cZ cJ rn rx ry rl rf rt (rh + 1) (upd gx rh vx) (upd gy rh vy) rc w1 w2 w3 rg rk kc kf kp ++ rest) := hD
      refine lv_aload_n hx hb d_R_hole_52 rfl (lv_at hl 0 rfl) ?_
      refine va_get (D := (dC, dI)) (ci := 5) (v := .int (nI (rh + 1))) (C := R_R) (T := T_R) (N := 18) hx hb htb in_R hown hK hP 0 rfl rfl 6 (by decide) (htb _ wd_455) (fun _ h9 => h9) rfl d_R_hole_53 ?_
      exact W.iret hx hb hr (fun tS ht hW => ⟨⟨_, (rh + 1, upd gx rh vx, upd gy rh vy), rfl, (ec_holF_new (Classical.byContradiction h5) (by omega)), by show va_P _ _ _ tS.heap; rw [ht]; exact hP⟩, hS.F ht⟩) hS.2.2 d_R_hole_56
    · refine lv_bipush (v := -3) hx hb d_R_hole_19 (by decide) ?_
      exact W.iret hx hb hr (fun tS ht hW => ⟨⟨_, (rh, gx, gy), rfl, (ec_holF_full (Classical.byContradiction h5) (by omega)), by show va_P _ _ _ tS.heap; rw [ht]; exact hP⟩, hS.F ht⟩) hS.2.2 d_R_hole_21
  · refine lv_bipush (v := -2) hx hb d_R_hole_8 (by decide) ?_
    exact W.iret hx hb hr (fun tS ht hW => ⟨⟨_, (rh, gx, gy), rfl, (ec_holF_far h5), by show va_P _ _ _ tS.heap; rw [ht]; exact hP⟩, hS.F ht⟩) hS.2.2 d_R_hole_10

set_option maxRecDepth 100000 in
set_option maxHeartbeats 4000000 in
theorem c_R_turn (l : Launch) (dC : Nat → ClassId) (dI : Nat → Nat → Nat) (a : Nat → Nat) (cI cZ cJ : ClassId) (rn : Nat) (rx : Nat → Int32) (ry : Nat → Int32) (rl : Nat) (rf : Nat → Nat) (rt : Nat → Nat) (rh : Nat) (gx : Nat → Int32) (gy : Nat → Int32) (rc : Nat) (w1 : Nat → Nat) (w2 : Nat → Nat) (w3 : Nat → Nat) (rg : Nat → Prop) (rk : Nat) (kc : Nat → Nat) (kf : Nat → Prop) (kp : Nat → Int64) (rest : va_W) (v : Int32) (w : Int32) (z : Int32) (g12 : rn ≤ 12) (gN : ∀ i, i < rn → ec_near (rx i) ∧ ec_near (ry i)) : Met l y_R_turn (Cond.code y_R_turn b_R_turn 4 (some .int) :: ec_tbl) ({ frames := 2, cells := 0, slots := 0, locals := 54 }) (va_Pc [.ref (a 0), .int v, .int w, .int z] (fun U => va_P (dC, dI) vwCl (wR a cI cZ cJ rn rx ry rl rf rt rh gx gy rc w1 w2 w3 rg rk kc kf kp ++ rest) U.heap ∧ va_K (dC, dI) vwCl (ec_tys cI cZ cJ) U)) (vp_Si (fun r : Int32 => r = ec_turF rn rx ry v w z)) 0 0 (fun _ => False) := by
  refine Met.ofW (cc := b_R_turn) (maxL := 4) (ret := (some .int)) (by decide) rfl ?_
  intro p e s m args below meth c s₁ B hml hv0
  obtain ⟨rfl, hP, hK⟩ := hv0
  have hx := B.exec
  have hb := B.bytes
  have hr := B.returns
  have hts := atoms_spec (ws := (Cond.code y_R_turn b_R_turn 4 (some .int) :: ec_tbl)) B.pre
  have htb : ∀ w ∈ ec_tbl, w.before _ s = true := fun w h => hts w (List.mem_cons_of_mem _ h)
  clear hts
  have hown : s.vm.findClass "ExactMeshModel" = some m.cls := findClass_of_methodNamed B.named
  have hlocks := B.notSynchronized
  have hl := lv_entry ([.ref (a 0), .int v, .int w, .int z]) (n := 4) (Nat.le_of_ble_eq_true rfl)
  rw [lg_entry_eq]
  generalize (lg_sl ([.ref (a 0), .int v, .int w, .int z]) ++ List.replicate (4 - (lg_sl ([.ref (a 0), .int v, .int w, .int z])).length) Slot.unset).toArray = ls at hl ⊢
  replace hl : lv_has ls 4 [(0, .ref (a 0)), (1, .int v), (2, .int w), (3, .int z)] := hl
  refine lv_aload_n hx hb d_R_turn_0 rfl (lv_at hl 0 rfl) ?_
  refine lv_iload_n hx hb d_R_turn_1 rfl (lv_at hl 1 rfl) ?_
  refine ec_vSi (C := "ExactMeshModel") (ci := 5) (q := (R_R, T_R, 18)) (q0 := 0) (As := [.int v]) (rest := []) ⟨hx, hb, hml, hown, htb⟩ (c_R_isPoint l dC dI a cI cZ cJ rn rx ry rl rf rt rh gx gy rc w1 w2 w3 rg rk kc kf kp rest v g12) kv_R_isPoint hK hP rfl rfl rfl wd_529 ⟨Nat.le_of_ble_eq_true rfl, Nat.le_of_ble_eq_true rfl⟩ ⟨rfl, rfl⟩ rfl hl.1 rfl (Nat.le_of_ble_eq_true rfl) d_R_turn_2 ⟨Nat.zero_le _, Nat.zero_le _⟩ (fun r2 hr2 => ?_)
  replace hr2 : ec_isB r2 (0 ≤ v.toInt ∧ v.toInt < rn) := hr2
  refine ec_if_eqB (tgt := 37) hx hb hr2 d_R_turn_5 rfl (fun h5 => ?_) (fun h5 => ?_)
  · refine lv_iconst (v := nI 2) hx hb d_R_turn_37 (by decide) ?_
    exact W.iret hx hb hr (fun tS ht hW => ⟨_, rfl, (ec_turF_no (fun q => h5 q.1)), ht⟩) (fun _ h => nomatch h) d_R_turn_38
  · refine lv_aload_n hx hb d_R_turn_8 rfl (lv_at hl 0 rfl) ?_
    refine lv_iload_n hx hb d_R_turn_9 rfl (lv_at hl 2 rfl) ?_
    refine ec_vSi (C := "ExactMeshModel") (ci := 5) (q := (R_R, T_R, 18)) (q0 := 0) (As := [.int w]) (rest := []) ⟨hx, hb, hml, hown, htb⟩ (c_R_isPoint l dC dI a cI cZ cJ rn rx ry rl rf rt rh gx gy rc w1 w2 w3 rg rk kc kf kp rest w g12) kv_R_isPoint hK hP rfl rfl rfl wd_529 ⟨Nat.le_of_ble_eq_true rfl, Nat.le_of_ble_eq_true rfl⟩ ⟨rfl, rfl⟩ rfl hl.1 rfl (Nat.le_of_ble_eq_true rfl) d_R_turn_10 ⟨Nat.zero_le _, Nat.zero_le _⟩ (fun r10 hr10 => ?_)
    replace hr10 : ec_isB r10 (0 ≤ w.toInt ∧ w.toInt < rn) := hr10
    refine ec_if_eqB (tgt := 37) hx hb hr10 d_R_turn_13 rfl (fun h13 => ?_) (fun h13 => ?_)
    · refine lv_iconst (v := nI 2) hx hb d_R_turn_37 (by decide) ?_
      exact W.iret hx hb hr (fun tS ht hW => ⟨_, rfl, (ec_turF_no (fun q => h13 q.2.1)), ht⟩) (fun _ h => nomatch h) d_R_turn_38
    · refine lv_aload_n hx hb d_R_turn_16 rfl (lv_at hl 0 rfl) ?_
      refine lv_iload_n hx hb d_R_turn_17 rfl (lv_at hl 3 rfl) ?_
      refine ec_vSi (C := "ExactMeshModel") (ci := 5) (q := (R_R, T_R, 18)) (q0 := 0) (As := [.int z]) (rest := []) ⟨hx, hb, hml, hown, htb⟩ (c_R_isPoint l dC dI a cI cZ cJ rn rx ry rl rf rt rh gx gy rc w1 w2 w3 rg rk kc kf kp rest z g12) kv_R_isPoint hK hP rfl rfl rfl wd_529 ⟨Nat.le_of_ble_eq_true rfl, Nat.le_of_ble_eq_true rfl⟩ ⟨rfl, rfl⟩ rfl hl.1 rfl (Nat.le_of_ble_eq_true rfl) d_R_turn_18 ⟨Nat.zero_le _, Nat.zero_le _⟩ (fun r18 hr18 => ?_)
      replace hr18 : ec_isB r18 (0 ≤ z.toInt ∧ z.toInt < rn) := hr18
      refine ec_if_eqB (tgt := 37) hx hb hr18 d_R_turn_21 rfl (fun h21 => ?_) (fun h21 => ?_)
      · refine lv_iconst (v := nI 2) hx hb d_R_turn_37 (by decide) ?_
        exact W.iret hx hb hr (fun tS ht hW => ⟨_, rfl, (ec_turF_no (fun q => h21 q.2.2)), ht⟩) (fun _ h => nomatch h) d_R_turn_38
      · obtain ⟨i, hi, hi2, rfl⟩ := ec_ofI h5
        obtain ⟨j, hj, hj2, rfl⟩ := ec_ofI h13
        obtain ⟨k, hk, hk2, rfl⟩ := ec_ofI h21
        refine lv_aload_n hx hb d_R_turn_24 rfl (lv_at hl 0 rfl) ?_
        refine lv_iload_n hx hb d_R_turn_25 rfl (lv_at hl 1 rfl) ?_
        refine lv_iload_n hx hb d_R_turn_26 rfl (lv_at hl 2 rfl) ?_
        refine lv_iload_n hx hb d_R_turn_27 rfl (lv_at hl 3 rfl) ?_
        refine ec_vSl (C := "ExactMeshModel") (ci := 5) (q := (R_R, T_R, 18)) (q0 := 0) (As := [.int (nI i), .int (nI j), .int (nI k)]) (rest := []) ⟨hx, hb, hml, hown, htb⟩ (c_R_of l dC dI a cI cZ cJ rn rx ry rl rf rt rh gx gy rc w1 w2 w3 rg rk kc kf kp rest i j k g12 gN (by omega) (by omega) (by omega)) kv_R_of hK hP rfl rfl rfl wd_541 ⟨Nat.le_of_ble_eq_true rfl, Nat.le_of_ble_eq_true rfl⟩ ⟨rfl, rfl⟩ rfl hl.1 rfl (Nat.le_of_ble_eq_true rfl) d_R_turn_28 ⟨Nat.zero_le _, Nat.zero_le _⟩ (fun r28 hr28 => ?_)
        replace hr28 : r28.toInt = ge_ori (ec_P rx ry i) (ec_P rx ry j) (ec_P rx ry k) := hr28
        refine ec_sTSi (As := [.long r28]) (rest := []) ⟨hx, hb, hml, hown, htb⟩ (c_R_sign l r28) ks_R_sign wd_545 ⟨Nat.le_of_ble_eq_true rfl, Nat.le_of_ble_eq_true rfl⟩ ⟨rfl, rfl⟩ rfl hl.1 rfl (Nat.le_of_ble_eq_true rfl) d_R_turn_31 ⟨Nat.zero_le _, Nat.zero_le _⟩ (fun r31 hr31 => ?_)
        replace hr31 : r31 = ec_sgn r28.toInt := hr31
        subst hr31
        rw [hr28]
        refine lv_goto (tgt := 38) hx hb d_R_turn_34 rfl ?_
        exact W.iret hx hb hr (fun tS ht hW => ⟨_, rfl, (ec_turF_yes g12 hi hj hk).symm, ht⟩) (fun _ h => nomatch h) d_R_turn_38

set_option maxRecDepth 100000 in
set_option maxHeartbeats 4000000 in
theorem c_R_triangles (l : Launch) (dC : Nat → ClassId) (dI : Nat → Nat → Nat) (a : Nat → Nat) (cI cZ cJ : ClassId) (rn : Nat) (rx : Nat → Int32) (ry : Nat → Int32) (rl : Nat) (rf : Nat → Nat) (rt : Nat → Nat) (rh : Nat) (gx : Nat → Int32) (gy : Nat → Int32) (rc : Nat) (w1 : Nat → Nat) (w2 : Nat → Nat) (w3 : Nat → Nat) (rg : Nat → Prop) (rk : Nat) (kc : Nat → Nat) (kf : Nat → Prop) (kp : Nat → Int64) (rest : va_W) : Met l y_R_triangles (Cond.code y_R_triangles b_R_triangles 1 (some .int) :: ec_tbl) ({ frames := 0, cells := 0, slots := 0, locals := 0 }) (va_Pc [.ref (a 0)] (fun U => va_P (dC, dI) vwCl (wR a cI cZ cJ rn rx ry rl rf rt rh gx gy rc w1 w2 w3 rg rk kc kf kp ++ rest) U.heap ∧ va_K (dC, dI) vwCl (ec_tys cI cZ cJ) U)) (vp_Si (fun r : Int32 => r = nI rk)) 0 0 (fun _ => False) := by
  refine Met.ofW (cc := b_R_triangles) (maxL := 1) (ret := (some .int)) (by decide) rfl ?_
  intro p e s m args below meth c s₁ B hml hv0
  obtain ⟨rfl, hP, hK⟩ := hv0
  have hx := B.exec
  have hb := B.bytes
  have hr := B.returns
  have hts := atoms_spec (ws := (Cond.code y_R_triangles b_R_triangles 1 (some .int) :: ec_tbl)) B.pre
  have htb : ∀ w ∈ ec_tbl, w.before _ s = true := fun w h => hts w (List.mem_cons_of_mem _ h)
  clear hts
  have hown : s.vm.findClass "ExactMeshModel" = some m.cls := findClass_of_methodNamed B.named
  have hlocks := B.notSynchronized
  have hl := lv_entry ([.ref (a 0)]) (n := 1) (Nat.le_of_ble_eq_true rfl)
  rw [lg_entry_eq]
  generalize (lg_sl ([.ref (a 0)]) ++ List.replicate (1 - (lg_sl ([.ref (a 0)])).length) Slot.unset).toArray = ls at hl ⊢
  replace hl : lv_has ls 1 [(0, .ref (a 0))] := hl
  refine lv_aload_n hx hb d_R_triangles_0 rfl (lv_at hl 0 rfl) ?_
  refine va_get (D := (dC, dI)) (ci := 5) (v := .int (nI rk)) (C := R_R) (T := T_R) (N := 18) hx hb htb in_R hown hK hP 0 rfl rfl 14 (by decide) (htb _ wd_463) (fun _ h9 => h9) rfl d_R_triangles_1 ?_
  exact W.iret hx hb hr (fun tS ht hW => ⟨_, rfl, rfl, ht⟩) (fun _ h => nomatch h) d_R_triangles_4

set_option maxRecDepth 100000 in
set_option maxHeartbeats 4000000 in
theorem c_R_isCorner (l : Launch) (dC : Nat → ClassId) (dI : Nat → Nat → Nat) (a : Nat → Nat) (cI cZ cJ : ClassId) (rn : Nat) (rx : Nat → Int32) (ry : Nat → Int32) (rl : Nat) (rf : Nat → Nat) (rt : Nat → Nat) (rh : Nat) (gx : Nat → Int32) (gy : Nat → Int32) (rc : Nat) (w1 : Nat → Nat) (w2 : Nat → Nat) (w3 : Nat → Nat) (rg : Nat → Prop) (rk : Nat) (kc : Nat → Nat) (kf : Nat → Prop) (kp : Nat → Int64) (rest : va_W) (v : Int32) (w : Int32) (grk : rk ≤ 19) : Met l y_R_isCorner (Cond.code y_R_isCorner b_R_isCorner 3 (some .boolean) :: ec_tbl) ({ frames := 0, cells := 0, slots := 0, locals := 0 }) (va_Pc [.ref (a 0), .int v, .int w] (fun U => va_P (dC, dI) vwCl (wR a cI cZ cJ rn rx ry rl rf rt rh gx gy rc w1 w2 w3 rg rk kc kf kp ++ rest) U.heap ∧ va_K (dC, dI) vwCl (ec_tys cI cZ cJ) U)) (vp_Si (fun r : Int32 => ec_isB r (ec_hc rk v w))) 0 0 (fun _ => False) := by
  refine Met.ofW (cc := b_R_isCorner) (maxL := 3) (ret := (some .boolean)) (by decide) rfl ?_
  intro p e s m args below meth c s₁ B hml hv0
  obtain ⟨rfl, hP, hK⟩ := hv0
  have hx := B.exec
  have hb := B.bytes
  have hr := B.returns
  have hts := atoms_spec (ws := (Cond.code y_R_isCorner b_R_isCorner 3 (some .boolean) :: ec_tbl)) B.pre
  have htb : ∀ w ∈ ec_tbl, w.before _ s = true := fun w h => hts w (List.mem_cons_of_mem _ h)
  clear hts
  have hown : s.vm.findClass "ExactMeshModel" = some m.cls := findClass_of_methodNamed B.named
  have hlocks := B.notSynchronized
  have hl := lv_entry ([.ref (a 0), .int v, .int w]) (n := 3) (Nat.le_of_ble_eq_true rfl)
  rw [lg_entry_eq]
  generalize (lg_sl ([.ref (a 0), .int v, .int w]) ++ List.replicate (3 - (lg_sl ([.ref (a 0), .int v, .int w])).length) Slot.unset).toArray = ls at hl ⊢
  replace hl : lv_has ls 3 [(0, .ref (a 0)), (1, .int v), (2, .int w)] := hl
  refine lv_iload_n hx hb d_R_isCorner_0 rfl (lv_at hl 1 rfl) ?_
  refine lv_if_lt (tgt := 25) hx hb d_R_isCorner_1 rfl (fun h1 => ?_) (fun h1 => ?_)
  · refine lv_iconst (v := nI 0) hx hb d_R_isCorner_25 (by decide) ?_
    exact W.zret hx hb hr rfl (fun tS ht hW => ⟨_, rfl, (ec_isB.f0 (fun q => by have h := ec_lt32 h1; have := q.1; omega)), ht⟩) (fun _ h => nomatch h) d_R_isCorner_26
  · refine lv_iload_n hx hb d_R_isCorner_4 rfl (lv_at hl 1 rfl) ?_
    refine lv_aload_n hx hb d_R_isCorner_5 rfl (lv_at hl 0 rfl) ?_
    refine va_get (D := (dC, dI)) (ci := 5) (v := .int (nI rk)) (C := R_R) (T := T_R) (N := 18) hx hb htb in_R hown hK hP 0 rfl rfl 14 (by decide) (htb _ wd_463) (fun _ h9 => h9) rfl d_R_isCorner_6 ?_
    refine lv_icmp_ge (tgt := 25) hx hb d_R_isCorner_9 rfl (fun h9 => ?_) (fun h9 => ?_)
    · refine lv_iconst (v := nI 0) hx hb d_R_isCorner_25 (by decide) ?_
      exact W.zret hx hb hr rfl (fun tS ht hW => ⟨_, rfl, (ec_isB.f0 (fun q => by have h := ec_le32 (by omega) h9; have := q.2.1; omega)), ht⟩) (fun _ h => nomatch h) d_R_isCorner_26
    · refine lv_iload_n hx hb d_R_isCorner_12 rfl (lv_at hl 2 rfl) ?_
      refine lv_if_lt (tgt := 25) hx hb d_R_isCorner_13 rfl (fun h13 => ?_) (fun h13 => ?_)
      · refine lv_iconst (v := nI 0) hx hb d_R_isCorner_25 (by decide) ?_
        exact W.zret hx hb hr rfl (fun tS ht hW => ⟨_, rfl, (ec_isB.f0 (fun q => by have h := ec_lt32 h13; have := q.2.2.1; omega)), ht⟩) (fun _ h => nomatch h) d_R_isCorner_26
      · refine lv_iload_n hx hb d_R_isCorner_16 rfl (lv_at hl 2 rfl) ?_
        refine lv_iconst (v := nI 2) hx hb d_R_isCorner_17 (by decide) ?_
        refine lv_icmp_gt (tgt := 25) hx hb d_R_isCorner_18 rfl (fun h18 => ?_) (fun h18 => ?_)
        · refine lv_iconst (v := nI 0) hx hb d_R_isCorner_25 (by decide) ?_
          exact W.zret hx hb hr rfl (fun tS ht hW => ⟨_, rfl, (ec_isB.f0 (fun q => by have h := ec_gt32 (n := 2) (by omega) h18; have := q.2.2.2; omega)), ht⟩) (fun _ h => nomatch h) d_R_isCorner_26
        · refine lv_iconst (v := nI 1) hx hb d_R_isCorner_21 (by decide) ?_
          refine lv_goto (tgt := 26) hx hb d_R_isCorner_22 rfl ?_
          exact W.zret hx hb hr rfl (fun tS ht hW => ⟨_, rfl, (ec_isB.t1 (by have h1 := ec_nlt32 h1; have h2 := ec_nle32 (by omega) h9; have h3 := ec_nlt32 h13; have h4 := ec_ngt32 (n := 2) (by omega) h18; exact ⟨by omega, by omega, by omega, by omega⟩)), ht⟩) (fun _ h => nomatch h) d_R_isCorner_26

set_option maxRecDepth 100000 in
set_option maxHeartbeats 4000000 in
theorem c_R_corner (l : Launch) (dC : Nat → ClassId) (dI : Nat → Nat → Nat) (a : Nat → Nat) (cI cZ cJ : ClassId) (rn : Nat) (rx : Nat → Int32) (ry : Nat → Int32) (rl : Nat) (rf : Nat → Nat) (rt : Nat → Nat) (rh : Nat) (gx : Nat → Int32) (gy : Nat → Int32) (rc : Nat) (w1 : Nat → Nat) (w2 : Nat → Nat) (w3 : Nat → Nat) (rg : Nat → Prop) (rk : Nat) (kc : Nat → Nat) (kf : Nat → Prop) (kp : Nat → Int64) (rest : va_W) (v : Int32) (w : Int32) (grk : rk ≤ 19) : Met l y_R_corner (Cond.code y_R_corner b_R_corner 3 (some .int) :: ec_tbl) ({ frames := 1, cells := 0, slots := 0, locals := 22 }) (va_Pc [.ref (a 0), .int v, .int w] (fun U => va_P (dC, dI) vwCl (wR a cI cZ cJ rn rx ry rl rf rt rh gx gy rc w1 w2 w3 rg rk kc kf kp ++ rest) U.heap ∧ va_K (dC, dI) vwCl (ec_tys cI cZ cJ) U)) (vp_Si (fun r : Int32 => r = ec_corF rk kc v w)) 0 0 (fun _ => False) := by
  refine Met.ofW (cc := b_R_corner) (maxL := 3) (ret := (some .int)) (by decide) rfl ?_
  intro p e s m args below meth c s₁ B hml hv0
  obtain ⟨rfl, hP, hK⟩ := hv0
  have hx := B.exec
  have hb := B.bytes
  have hr := B.returns
  have hts := atoms_spec (ws := (Cond.code y_R_corner b_R_corner 3 (some .int) :: ec_tbl)) B.pre
  have htb : ∀ w ∈ ec_tbl, w.before _ s = true := fun w h => hts w (List.mem_cons_of_mem _ h)
  clear hts
  have hown : s.vm.findClass "ExactMeshModel" = some m.cls := findClass_of_methodNamed B.named
  have hlocks := B.notSynchronized
  have hl := lv_entry ([.ref (a 0), .int v, .int w]) (n := 3) (Nat.le_of_ble_eq_true rfl)
  rw [lg_entry_eq]
  generalize (lg_sl ([.ref (a 0), .int v, .int w]) ++ List.replicate (3 - (lg_sl ([.ref (a 0), .int v, .int w])).length) Slot.unset).toArray = ls at hl ⊢
  replace hl : lv_has ls 3 [(0, .ref (a 0)), (1, .int v), (2, .int w)] := hl
  refine lv_aload_n hx hb d_R_corner_0 rfl (lv_at hl 0 rfl) ?_
  refine lv_iload_n hx hb d_R_corner_1 rfl (lv_at hl 1 rfl) ?_
  refine lv_iload_n hx hb d_R_corner_2 rfl (lv_at hl 2 rfl) ?_
  refine ec_vSi (C := "ExactMeshModel") (ci := 5) (q := (R_R, T_R, 18)) (q0 := 0) (As := [.int v, .int w]) (rest := []) ⟨hx, hb, hml, hown, htb⟩ (c_R_isCorner l dC dI a cI cZ cJ rn rx ry rl rf rt rh gx gy rc w1 w2 w3 rg rk kc kf kp rest v w grk) kv_R_isCorner hK hP rfl rfl rfl wd_638 ⟨Nat.le_of_ble_eq_true rfl, Nat.le_of_ble_eq_true rfl⟩ ⟨rfl, rfl⟩ rfl hl.1 rfl (Nat.le_of_ble_eq_true rfl) d_R_corner_3 ⟨Nat.zero_le _, Nat.zero_le _⟩ (fun r3 hr3 => ?_)
  replace hr3 : ec_isB r3 (ec_hc rk v w) := hr3
  refine ec_if_eqB (tgt := 22) hx hb hr3 d_R_corner_6 rfl (fun h6 => ?_) (fun h6 => ?_)
  · refine lv_iconst (v := -1) hx hb d_R_corner_22 (by decide) ?_
    exact W.iret hx hb hr (fun tS ht hW => ⟨_, rfl, (ec_corF_n h6), ht⟩) (fun _ h => nomatch h) d_R_corner_23
  · obtain ⟨t, k, htt, ht2, hk, rfl, rfl⟩ := ec_ofHC h6
    refine lv_aload_n hx hb d_R_corner_9 rfl (lv_at hl 0 rfl) ?_
    refine va_get (D := (dC, dI)) (ci := 5) (v := .ref (a 11)) (C := R_R) (T := T_R) (N := 18) hx hb htb in_R hown hK hP 0 rfl rfl 15 (by decide) (htb _ wd_464) (fun _ h9 => h9) rfl d_R_corner_10 ?_
    refine lv_iconst (v := nI 3) hx hb d_R_corner_13 (by decide) ?_
    refine lv_iload_n hx hb d_R_corner_14 rfl (lv_at hl 1 rfl) ?_
    refine ec_imul hx hb d_R_corner_15 ?_
    refine lv_iload_n hx hb d_R_corner_16 rfl (lv_at hl 2 rfl) ?_
    refine ec_iadd hx hb d_R_corner_17 ?_
    refine ec_ialdN (f := kc) (i := (3 * t) + k) hx hb hK hP 11 0 rfl rfl (by omega) (by decide) d_R_corner_18 ?_
    refine lv_goto (tgt := 23) hx hb d_R_corner_19 rfl ?_
    exact W.iret hx hb hr (fun tS ht hW => ⟨_, rfl, (ec_corF_y htt ht2 hk), ht⟩) (fun _ h => nomatch h) d_R_corner_23

set_option maxRecDepth 100000 in
set_option maxHeartbeats 4000000 in
theorem c_R_across (l : Launch) (dC : Nat → ClassId) (dI : Nat → Nat → Nat) (a : Nat → Nat) (cI cZ cJ : ClassId) (rn : Nat) (rx : Nat → Int32) (ry : Nat → Int32) (rl : Nat) (rf : Nat → Nat) (rt : Nat → Nat) (rh : Nat) (gx : Nat → Int32) (gy : Nat → Int32) (rc : Nat) (w1 : Nat → Nat) (w2 : Nat → Nat) (w3 : Nat → Nat) (rg : Nat → Prop) (rk : Nat) (kc : Nat → Nat) (kf : Nat → Prop) (kp : Nat → Int64) (rest : va_W) (v : Int32) (w : Int32) (g12 : rn ≤ 12) (grk : rk ≤ 19) (gkc : ∀ i, i < 3 * rk → kc i < rn) (guq : ec_uqs rk kc) : Met l y_R_across (Cond.code y_R_across b_R_across 7 (some .int) :: ec_tbl) ({ frames := 1, cells := 0, slots := 0, locals := 22 }) (va_Pc [.ref (a 0), .int v, .int w] (fun U => va_P (dC, dI) vwCl (wR a cI cZ cJ rn rx ry rl rf rt rh gx gy rc w1 w2 w3 rg rk kc kf kp ++ rest) U.heap ∧ va_K (dC, dI) vwCl (ec_tys cI cZ cJ) U)) (vp_Si (fun r : Int32 => r = ec_acrF rk kc v w)) 0 0 (fun _ => False) := by
  refine Met.ofW (cc := b_R_across) (maxL := 7) (ret := (some .int)) (by decide) rfl ?_
  intro p e s m args below meth c s₁ B hml hv0
  obtain ⟨rfl, hP, hK⟩ := hv0
  have hx := B.exec
  have hb := B.bytes
  have hr := B.returns
  have hts := atoms_spec (ws := (Cond.code y_R_across b_R_across 7 (some .int) :: ec_tbl)) B.pre
  have htb : ∀ w ∈ ec_tbl, w.before _ s = true := fun w h => hts w (List.mem_cons_of_mem _ h)
  clear hts
  have hown : s.vm.findClass "ExactMeshModel" = some m.cls := findClass_of_methodNamed B.named
  have hlocks := B.notSynchronized
  have hl := lv_entry ([.ref (a 0), .int v, .int w]) (n := 7) (Nat.le_of_ble_eq_true rfl)
  rw [lg_entry_eq]
  generalize (lg_sl ([.ref (a 0), .int v, .int w]) ++ List.replicate (7 - (lg_sl ([.ref (a 0), .int v, .int w])).length) Slot.unset).toArray = ls at hl ⊢
  replace hl : lv_has ls 7 [(0, .ref (a 0)), (1, .int v), (2, .int w)] := hl
  refine lv_aload_n hx hb d_R_across_0 rfl (lv_at hl 0 rfl) ?_
  refine lv_iload_n hx hb d_R_across_1 rfl (lv_at hl 1 rfl) ?_
  refine lv_iload_n hx hb d_R_across_2 rfl (lv_at hl 2 rfl) ?_
  refine ec_vSi (C := "ExactMeshModel") (ci := 5) (q := (R_R, T_R, 18)) (q0 := 0) (As := [.int v, .int w]) (rest := []) ⟨hx, hb, hml, hown, htb⟩ (c_R_isCorner l dC dI a cI cZ cJ rn rx ry rl rf rt rh gx gy rc w1 w2 w3 rg rk kc kf kp rest v w grk) kv_R_isCorner hK hP rfl rfl rfl wd_638 ⟨Nat.le_of_ble_eq_true rfl, Nat.le_of_ble_eq_true rfl⟩ ⟨rfl, rfl⟩ rfl hl.1 rfl (Nat.le_of_ble_eq_true rfl) d_R_across_3 ⟨Nat.zero_le _, Nat.zero_le _⟩ (fun r3 hr3 => ?_)
  replace hr3 : ec_isB r3 (ec_hc rk v w) := hr3
  refine ec_if_neB (tgt := 11) hx hb hr3 d_R_across_6 rfl (fun h6 => ?_) (fun h6 => ?_)
  · obtain ⟨t, k, htt, ht2, hk, rfl, rfl⟩ := ec_ofHC h6
    have q0 := gkc (3 * t + k) (by omega)
    have hnx : ec_nx k < 3 := by have := ec_nx_lt (k := k) (by omega); omega
    have q1 := gkc (3 * t + ec_nx k) (by omega)
    refine lv_aload_n hx hb d_R_across_11 rfl (lv_at hl 0 rfl) ?_
    refine va_get (D := (dC, dI)) (ci := 5) (v := .ref (a 11)) (C := R_R) (T := T_R) (N := 18) hx hb htb in_R hown hK hP 0 rfl rfl 15 (by decide) (htb _ wd_464) (fun _ h9 => h9) rfl d_R_across_12 ?_
    refine lv_iconst (v := nI 3) hx hb d_R_across_15 (by decide) ?_
    refine lv_iload_n hx hb d_R_across_16 rfl (lv_at hl 1 rfl) ?_
    refine ec_imul hx hb d_R_across_17 ?_
    refine lv_iload_n hx hb d_R_across_18 rfl (lv_at hl 2 rfl) ?_
    refine ec_iadd hx hb d_R_across_19 ?_
    refine ec_ialdN (f := kc) (i := (3 * t) + k) hx hb hK hP 11 0 rfl rfl (by omega) (by decide) d_R_across_20 ?_
    refine lv_istore_n hx hb d_R_across_21 rfl hl (by decide) rfl (fun ls hl => ?_)
    replace hl : lv_has ls 7 [(3, .int (nI (kc ((3 * t) + k)))), (0, .ref (a 0)), (1, .int (nI t)), (2, .int (nI k))] := hl
    refine lv_aload_n hx hb d_R_across_22 rfl (lv_at hl 1 rfl) ?_
    refine va_get (D := (dC, dI)) (ci := 5) (v := .ref (a 11)) (C := R_R) (T := T_R) (N := 18) hx hb htb in_R hown hK hP 0 rfl rfl 15 (by decide) (htb _ wd_464) (fun _ h9 => h9) rfl d_R_across_23 ?_
    refine lv_iconst (v := nI 3) hx hb d_R_across_26 (by decide) ?_
    refine lv_iload_n hx hb d_R_across_27 rfl (lv_at hl 2 rfl) ?_
    refine ec_imul hx hb d_R_across_28 ?_
    refine lv_iload_n hx hb d_R_across_29 rfl (lv_at hl 3 rfl) ?_
    refine lv_iconst (v := nI 1) hx hb d_R_across_30 (by decide) ?_
    refine ec_iadd hx hb d_R_across_31 ?_
    refine lv_iconst (v := nI 3) hx hb d_R_across_32 (by decide) ?_
    refine lv_irem hx hb d_R_across_33 (by decide) ?_
    refine lv_topi (fun yN eyN => ?_)
    obtain rfl : yN = nI (ec_nx k) := eyN.trans (ec_irem3 hk)
    refine ec_iadd hx hb d_R_across_34 ?_
    refine ec_ialdN (f := kc) (i := (3 * t) + (ec_nx k)) hx hb hK hP 11 0 rfl rfl (by omega) (by decide) d_R_across_35 ?_
    refine lv_istore hx hb d_R_across_36 hl (by decide) rfl (fun ls hl => ?_)
    replace hl : lv_has ls 7 [(4, .int (nI (kc ((3 * t) + (ec_nx k))))), (3, .int (nI (kc ((3 * t) + k)))), (0, .ref (a 0)), (1, .int (nI t)), (2, .int (nI k))] := hl
    refine lv_iconst (v := nI 0) hx hb d_R_across_38 (by decide) ?_
    refine lv_istore hx hb d_R_across_39 hl (by decide) rfl (fun ls hl => ?_)
    replace hl : lv_has ls 7 [(5, .int (nI 0)), (4, .int (nI (kc ((3 * t) + (ec_nx k))))), (3, .int (nI (kc ((3 * t) + k)))), (0, .ref (a 0)), (1, .int (nI t)), (2, .int (nI k))] := hl
    obtain ⟨s4, e_s4⟩ : ∃ z : Nat, z = 0 := ⟨_, rfl⟩
    replace hl : lv_has ls 7 [(0, .ref (a 0)), (3, .int (nI (kc ((3 * t) + k)))), (4, .int (nI (kc ((3 * t) + (ec_nx k))))), (5, .int (nI s4))] := by (try simp only [e_s4]); exact lv_sub hl [3, 2, 1, 0] rfl
    have hle : s4 ≤ rk := by omega
    have hI : ∀ x, x < s4 → ¬ ec_side kc x (kc (3 * t + ec_nx k)) (kc (3 * t + k)) := by exact fun v hv => by omega
    clear e_s4
    generalize hk41 : rk - s4 = k41
    induction k41 using Nat.strongRecOn generalizing s4 ls with
    | ind k41 ih41 =>
    refine lv_iload hx hb d_R_across_41 (lv_at hl 3 rfl) ?_
    refine lv_aload_n hx hb d_R_across_43 rfl (lv_at hl 0 rfl) ?_
    refine va_get (D := (dC, dI)) (ci := 5) (v := .int (nI rk)) (C := R_R) (T := T_R) (N := 18) hx hb htb in_R hown hK hP 0 rfl rfl 14 (by decide) (htb _ wd_463) (fun _ h9 => h9) rfl d_R_across_44 ?_
    refine ec_icmp_ge (tgt := 111) hx hb d_R_across_47 rfl (by omega) (by omega) (fun h47 => ?_) (fun h47 => ?_)
    · refine lv_iconst (v := -1) hx hb d_R_across_111 (by decide) ?_
      exact W.iret hx hb hr (fun tS ht hW => ⟨_, rfl, (ec_acrF_y htt ht2 hk (o := none) (ec_own_none (fun x hx => hI x (by omega))).symm), ht⟩) (fun _ h => nomatch h) d_R_across_112
    · refine lv_iconst (v := nI 0) hx hb d_R_across_50 (by decide) ?_
      refine lv_istore hx hb d_R_across_51 hl (by decide) rfl (fun ls hl => ?_)
      replace hl : lv_has ls 7 [(6, .int (nI 0)), (0, .ref (a 0)), (3, .int (nI (kc ((3 * t) + k)))), (4, .int (nI (kc ((3 * t) + (ec_nx k))))), (5, .int (nI s4))] := hl
      obtain ⟨j, e_j⟩ : ∃ z : Nat, z = 0 := ⟨_, rfl⟩
      replace hl : lv_has ls 7 [(0, .ref (a 0)), (3, .int (nI (kc ((3 * t) + k)))), (4, .int (nI (kc ((3 * t) + (ec_nx k))))), (5, .int (nI s4)), (6, .int (nI j))] := by (try simp only [e_j]); exact lv_sub hl [1, 2, 3, 4, 0] rfl
      have hle2 : j ≤ 3 := by omega
      have hI2 : ∀ x, x < j → ¬ (kc (3 * s4 + x) = kc (3 * t + ec_nx k) ∧ kc (3 * s4 + ec_nx x) = kc (3 * t + k)) := by exact fun v hv => by omega
      clear e_j
      generalize hk53 : 3 - j = k53
      induction k53 using Nat.strongRecOn generalizing j ls with
      | ind k53 ih53 =>
      refine lv_iload hx hb d_R_across_53 (lv_at hl 4 rfl) ?_
      refine lv_iconst (v := nI 3) hx hb d_R_across_55 (by decide) ?_
      refine ec_icmp_ge (tgt := 105) hx hb d_R_across_56 rfl (by omega) (by omega) (fun h56 => ?_) (fun h56 => ?_)
      · refine ec_iinc (k := 3) hx hb d_R_across_105 hl rfl (by decide) rfl (fun ls hl => ?_)
        replace hl : lv_has ls 7 [(5, .int (nI (s4 + 1))), (0, .ref (a 0)), (3, .int (nI (kc ((3 * t) + k)))), (4, .int (nI (kc ((3 * t) + (ec_nx k))))), (6, .int (nI j))] := hl
        refine lv_goto (tgt := 41) hx hb d_R_across_108 rfl ?_
        exact ih41 _ (by omega) (s4 := s4 + 1) (ls := ls) (hl := lv_sub hl [1, 2, 3, 0] rfl) (hle := (by omega)) (hI := (lt_s hI (ec_side_n (fun x hx => hI2 x (by omega))))) (hk41 := rfl)
      · have q2 := gkc (3 * s4 + j) (by omega)
        have hnx2 : ec_nx j < 3 := by have := ec_nx_lt (k := j) (by omega); omega
        have q3 := gkc (3 * s4 + ec_nx j) (by omega)
        refine lv_aload_n hx hb d_R_across_59 rfl (lv_at hl 0 rfl) ?_
        refine va_get (D := (dC, dI)) (ci := 5) (v := .ref (a 11)) (C := R_R) (T := T_R) (N := 18) hx hb htb in_R hown hK hP 0 rfl rfl 15 (by decide) (htb _ wd_464) (fun _ h9 => h9) rfl d_R_across_60 ?_
        refine lv_iconst (v := nI 3) hx hb d_R_across_63 (by decide) ?_
        refine lv_iload hx hb d_R_across_64 (lv_at hl 3 rfl) ?_
        refine ec_imul hx hb d_R_across_66 ?_
        refine lv_iload hx hb d_R_across_67 (lv_at hl 4 rfl) ?_
        refine ec_iadd hx hb d_R_across_69 ?_
        refine ec_ialdN (f := kc) (i := (3 * s4) + j) hx hb hK hP 11 0 rfl rfl (by omega) (by decide) d_R_across_70 ?_
        refine lv_iload hx hb d_R_across_71 (lv_at hl 2 rfl) ?_
        refine ec_icmp_ne (tgt := 99) hx hb d_R_across_73 rfl (by omega) (by omega) (fun h73 => ?_) (fun h73 => ?_)
        · refine ec_iinc (k := 4) hx hb d_R_across_99 hl rfl (by decide) rfl (fun ls hl => ?_)
          replace hl : lv_has ls 7 [(6, .int (nI (j + 1))), (0, .ref (a 0)), (3, .int (nI (kc ((3 * t) + k)))), (4, .int (nI (kc ((3 * t) + (ec_nx k))))), (5, .int (nI s4))] := hl
          refine lv_goto (tgt := 53) hx hb d_R_across_102 rfl ?_
          exact ih53 _ (by omega) (j := j + 1) (ls := ls) (hl := lv_sub hl [1, 2, 3, 4, 0] rfl) (hle2 := (by omega)) (hI2 := (lt_s hI2 (fun q => h73 q.1))) (hk53 := rfl)
        · refine lv_aload_n hx hb d_R_across_76 rfl (lv_at hl 0 rfl) ?_
          refine va_get (D := (dC, dI)) (ci := 5) (v := .ref (a 11)) (C := R_R) (T := T_R) (N := 18) hx hb htb in_R hown hK hP 0 rfl rfl 15 (by decide) (htb _ wd_464) (fun _ h9 => h9) rfl d_R_across_77 ?_
          refine lv_iconst (v := nI 3) hx hb d_R_across_80 (by decide) ?_
          refine lv_iload hx hb d_R_across_81 (lv_at hl 3 rfl) ?_
          refine ec_imul hx hb d_R_across_83 ?_
          refine lv_iload hx hb d_R_across_84 (lv_at hl 4 rfl) ?_
          refine lv_iconst (v := nI 1) hx hb d_R_across_86 (by decide) ?_
          refine ec_iadd hx hb d_R_across_87 ?_
          refine lv_iconst (v := nI 3) hx hb d_R_across_88 (by decide) ?_
          refine lv_irem hx hb d_R_across_89 (by decide) ?_
          refine lv_topi (fun yM eyM => ?_)
          obtain rfl : yM = nI (ec_nx j) := eyM.trans (ec_irem3 (by omega))
          refine ec_iadd hx hb d_R_across_90 ?_
          refine ec_ialdN (f := kc) (i := (3 * s4) + (ec_nx j)) hx hb hK hP 11 0 rfl rfl (by omega) (by decide) d_R_across_91 ?_
          refine lv_iload_n hx hb d_R_across_92 rfl (lv_at hl 1 rfl) ?_
          refine ec_icmp_ne (tgt := 99) hx hb d_R_across_93 rfl (by omega) (by omega) (fun h93 => ?_) (fun h93 => ?_)
          · refine ec_iinc (k := 4) hx hb d_R_across_99 hl rfl (by decide) rfl (fun ls hl => ?_)
            replace hl : lv_has ls 7 [(6, .int (nI (j + 1))), (0, .ref (a 0)), (3, .int (nI (kc ((3 * t) + k)))), (4, .int (nI (kc ((3 * t) + (ec_nx k))))), (5, .int (nI s4))] := hl
            refine lv_goto (tgt := 53) hx hb d_R_across_102 rfl ?_
            exact ih53 _ (by omega) (j := j + 1) (ls := ls) (hl := lv_sub hl [1, 2, 3, 4, 0] rfl) (hle2 := (by omega)) (hI2 := (lt_s hI2 (fun q => h93 q.2))) (hk53 := rfl)
          · refine lv_iload hx hb d_R_across_96 (lv_at hl 3 rfl) ?_
            exact W.iret hx hb hr (fun tS ht hW => ⟨_, rfl, (ec_acrF_y htt ht2 hk (o := some s4) (ec_own_some guq h47 (ec_side_s (k := j) (by omega) h73 h93)).symm), ht⟩) (fun _ h => nomatch h) d_R_across_98
  · refine lv_iconst (v := -1) hx hb d_R_across_9 (by decide) ?_
    exact W.iret hx hb hr (fun tS ht hW => ⟨_, rfl, (ec_acrF_n h6), ht⟩) (fun _ h => nomatch h) d_R_across_10

set_option maxRecDepth 100000 in
set_option maxHeartbeats 4000000 in
theorem c_R_fixed (l : Launch) (dC : Nat → ClassId) (dI : Nat → Nat → Nat) (a : Nat → Nat) (cI cZ cJ : ClassId) (rn : Nat) (rx : Nat → Int32) (ry : Nat → Int32) (rl : Nat) (rf : Nat → Nat) (rt : Nat → Nat) (rh : Nat) (gx : Nat → Int32) (gy : Nat → Int32) (rc : Nat) (w1 : Nat → Nat) (w2 : Nat → Nat) (w3 : Nat → Nat) (rg : Nat → Prop) (rk : Nat) (kc : Nat → Nat) (kf : Nat → Prop) (kp : Nat → Int64) (rest : va_W) (v : Int32) (w : Int32) (grk : rk ≤ 19) : Met l y_R_fixed (Cond.code y_R_fixed b_R_fixed 3 (some .boolean) :: ec_tbl) ({ frames := 1, cells := 0, slots := 0, locals := 22 }) (va_Pc [.ref (a 0), .int v, .int w] (fun U => va_P (dC, dI) vwCl (wR a cI cZ cJ rn rx ry rl rf rt rh gx gy rc w1 w2 w3 rg rk kc kf kp ++ rest) U.heap ∧ va_K (dC, dI) vwCl (ec_tys cI cZ cJ) U)) (vp_Si (fun r : Int32 => ec_isB r (ec_hc rk v w ∧ kf (3 * ec_n v + ec_n w)))) 0 0 (fun _ => False) := by
  refine Met.ofW (cc := b_R_fixed) (maxL := 3) (ret := (some .boolean)) (by decide) rfl ?_
  intro p e s m args below meth c s₁ B hml hv0
  obtain ⟨rfl, hP, hK⟩ := hv0
  have hx := B.exec
  have hb := B.bytes
  have hr := B.returns
  have hts := atoms_spec (ws := (Cond.code y_R_fixed b_R_fixed 3 (some .boolean) :: ec_tbl)) B.pre
  have htb : ∀ w ∈ ec_tbl, w.before _ s = true := fun w h => hts w (List.mem_cons_of_mem _ h)
  clear hts
  have hown : s.vm.findClass "ExactMeshModel" = some m.cls := findClass_of_methodNamed B.named
  have hlocks := B.notSynchronized
  have hl := lv_entry ([.ref (a 0), .int v, .int w]) (n := 3) (Nat.le_of_ble_eq_true rfl)
  rw [lg_entry_eq]
  generalize (lg_sl ([.ref (a 0), .int v, .int w]) ++ List.replicate (3 - (lg_sl ([.ref (a 0), .int v, .int w])).length) Slot.unset).toArray = ls at hl ⊢
  replace hl : lv_has ls 3 [(0, .ref (a 0)), (1, .int v), (2, .int w)] := hl
  refine lv_aload_n hx hb d_R_fixed_0 rfl (lv_at hl 0 rfl) ?_
  refine lv_iload_n hx hb d_R_fixed_1 rfl (lv_at hl 1 rfl) ?_
  refine lv_iload_n hx hb d_R_fixed_2 rfl (lv_at hl 2 rfl) ?_
  refine ec_vSi (C := "ExactMeshModel") (ci := 5) (q := (R_R, T_R, 18)) (q0 := 0) (As := [.int v, .int w]) (rest := []) ⟨hx, hb, hml, hown, htb⟩ (c_R_isCorner l dC dI a cI cZ cJ rn rx ry rl rf rt rh gx gy rc w1 w2 w3 rg rk kc kf kp rest v w grk) kv_R_isCorner hK hP rfl rfl rfl wd_638 ⟨Nat.le_of_ble_eq_true rfl, Nat.le_of_ble_eq_true rfl⟩ ⟨rfl, rfl⟩ rfl hl.1 rfl (Nat.le_of_ble_eq_true rfl) d_R_fixed_3 ⟨Nat.zero_le _, Nat.zero_le _⟩ (fun r3 hr3 => ?_)
  replace hr3 : ec_isB r3 (ec_hc rk v w) := hr3
  refine ec_if_eqB (tgt := 26) hx hb hr3 d_R_fixed_6 rfl (fun h6 => ?_) (fun h6 => ?_)
  · refine lv_iconst (v := nI 0) hx hb d_R_fixed_26 (by decide) ?_
    exact W.zret hx hb hr rfl (fun tS ht hW => ⟨_, rfl, (ec_isB.f0 (fun q => h6 q.1)), ht⟩) (fun _ h => nomatch h) d_R_fixed_27
  · obtain ⟨t, k, htt, ht2, hk, rfl, rfl⟩ := ec_ofHC h6
    refine lv_aload_n hx hb d_R_fixed_9 rfl (lv_at hl 0 rfl) ?_
    refine va_get (D := (dC, dI)) (ci := 5) (v := .ref (a 12)) (C := R_R) (T := T_R) (N := 18) hx hb htb in_R hown hK hP 0 rfl rfl 16 (by decide) (htb _ wd_465) (fun _ h9 => h9) rfl d_R_fixed_10 ?_
    refine lv_iconst (v := nI 3) hx hb d_R_fixed_13 (by decide) ?_
    refine lv_iload_n hx hb d_R_fixed_14 rfl (lv_at hl 1 rfl) ?_
    refine ec_imul hx hb d_R_fixed_15 ?_
    refine lv_iload_n hx hb d_R_fixed_16 rfl (lv_at hl 2 rfl) ?_
    refine ec_iadd hx hb d_R_fixed_17 ?_
    refine ec_zaldZ (f := kf) (i := (3 * t) + k) hx hb hK hP 12 1 rfl rfl (by omega) (by decide) d_R_fixed_18 ?_
    refine ec_if_eqB (tgt := 26) hx hb (ec_bp_is _) d_R_fixed_19 rfl (fun h19 => ?_) (fun h19 => ?_)
    · refine lv_iconst (v := nI 0) hx hb d_R_fixed_26 (by decide) ?_
      exact W.zret hx hb hr rfl (fun tS ht hW => ⟨_, rfl, (ec_isB.f0 (fun q => h19 (by have z := q.2; rw [ec_n_nI ht2, ec_n_nI (by omega)] at z; exact z))), ht⟩) (fun _ h => nomatch h) d_R_fixed_27
    · refine lv_iconst (v := nI 1) hx hb d_R_fixed_22 (by decide) ?_
      refine lv_goto (tgt := 27) hx hb d_R_fixed_23 rfl ?_
      exact W.zret hx hb hr rfl (fun tS ht hW => ⟨_, rfl, (ec_isB.t1 ⟨h6, by rw [ec_n_nI ht2, ec_n_nI (by omega)]; exact h19⟩), ht⟩) (fun _ h => nomatch h) d_R_fixed_27

set_option maxRecDepth 100000 in
set_option maxHeartbeats 4000000 in
theorem c_R_locate (l : Launch) (dC : Nat → ClassId) (dI : Nat → Nat → Nat) (a : Nat → Nat) (cI cZ cJ : ClassId) (rn : Nat) (rx : Nat → Int32) (ry : Nat → Int32) (rl : Nat) (rf : Nat → Nat) (rt : Nat → Nat) (rh : Nat) (gx : Nat → Int32) (gy : Nat → Int32) (rc : Nat) (w1 : Nat → Nat) (w2 : Nat → Nat) (w3 : Nat → Nat) (rg : Nat → Prop) (rk : Nat) (kc : Nat → Nat) (kf : Nat → Prop) (kp : Nat → Int64) (rest : va_W) (vx : Int32) (vy : Int32) (g12 : rn ≤ 12) (gN : ∀ i, i < rn → ec_near (rx i) ∧ ec_near (ry i)) (grk : rk ≤ 19) (gkc : ∀ i, i < 3 * rk → kc i < rn) : Met l y_R_locate (Cond.code y_R_locate b_R_locate 4 (some .int) :: ec_tbl) ({ frames := 3, cells := 0, slots := 0, locals := 84 }) (va_Pc [.ref (a 0), .int vx, .int vy] (fun U => va_P (dC, dI) vwCl (wR a cI cZ cJ rn rx ry rl rf rt rh gx gy rc w1 w2 w3 rg rk kc kf kp ++ rest) U.heap ∧ va_K (dC, dI) vwCl (ec_tys cI cZ cJ) U)) (vp_Si (fun r : Int32 => ∃ o, r = ec_oi o ∧ ec_fst rk (fun t => ec_hold rx ry kc t vx vy) o)) 0 0 (fun _ => False) := by
  refine Met.ofW (cc := b_R_locate) (maxL := 4) (ret := (some .int)) (by decide) rfl ?_
  intro p e s m args below meth c s₁ B hml hv0
  obtain ⟨rfl, hP, hK⟩ := hv0
  have hx := B.exec
  have hb := B.bytes
  have hr := B.returns
  have hts := atoms_spec (ws := (Cond.code y_R_locate b_R_locate 4 (some .int) :: ec_tbl)) B.pre
  have htb : ∀ w ∈ ec_tbl, w.before _ s = true := fun w h => hts w (List.mem_cons_of_mem _ h)
  clear hts
  have hown : s.vm.findClass "ExactMeshModel" = some m.cls := findClass_of_methodNamed B.named
  have hlocks := B.notSynchronized
  have hl := lv_entry ([.ref (a 0), .int vx, .int vy]) (n := 4) (Nat.le_of_ble_eq_true rfl)
  rw [lg_entry_eq]
  generalize (lg_sl ([.ref (a 0), .int vx, .int vy]) ++ List.replicate (4 - (lg_sl ([.ref (a 0), .int vx, .int vy])).length) Slot.unset).toArray = ls at hl ⊢
  replace hl : lv_has ls 4 [(0, .ref (a 0)), (1, .int vx), (2, .int vy)] := hl
  refine lv_iconst (v := nI 0) hx hb d_R_locate_0 (by decide) ?_
  refine lv_istore_n hx hb d_R_locate_1 rfl hl (by decide) rfl (fun ls hl => ?_)
  replace hl : lv_has ls 4 [(3, .int (nI 0)), (0, .ref (a 0)), (1, .int vx), (2, .int vy)] := hl
  obtain ⟨t, e_t⟩ : ∃ z : Nat, z = 0 := ⟨_, rfl⟩
  replace hl : lv_has ls 4 [(0, .ref (a 0)), (1, .int vx), (2, .int vy), (3, .int (nI t))] := by (try simp only [e_t]); exact lv_sub hl [1, 2, 3, 0] rfl
  have hle : t ≤ rk := by omega
  have hI : ∀ v, v < t → ¬ ec_hold rx ry kc v vx vy := by exact fun v hv => by omega
  clear e_t
  generalize hk2 : rk - t = k2
  induction k2 using Nat.strongRecOn generalizing t ls with
  | ind k2 ih2 =>
  refine lv_iload_n hx hb d_R_locate_2 rfl (lv_at hl 3 rfl) ?_
  refine lv_aload_n hx hb d_R_locate_3 rfl (lv_at hl 0 rfl) ?_
  refine va_get (D := (dC, dI)) (ci := 5) (v := .int (nI rk)) (C := R_R) (T := T_R) (N := 18) hx hb htb in_R hown hK hP 0 rfl rfl 14 (by decide) (htb _ wd_463) (fun _ h9 => h9) rfl d_R_locate_4 ?_
  refine ec_icmp_ge (tgt := 57) hx hb d_R_locate_7 rfl (by omega) (by omega) (fun h7 => ?_) (fun h7 => ?_)
  · refine lv_iconst (v := -1) hx hb d_R_locate_57 (by decide) ?_
    exact W.iret hx hb hr (fun tS ht hW => ⟨_, rfl, ⟨none, rfl, fun v q => (by cases q), fun _ v hv => hI v (by omega)⟩, ht⟩) (fun _ h => nomatch h) d_R_locate_58
  · have c0 := gkc (3 * t + 0) (by omega)
    have c1 := gkc (3 * t + 1) (by omega)
    have c2 := gkc (3 * t + 2) (by omega)
    refine lv_aload_n hx hb d_R_locate_10 rfl (lv_at hl 0 rfl) ?_
    refine lv_aload_n hx hb d_R_locate_11 rfl (lv_at hl 0 rfl) ?_
    refine va_get (D := (dC, dI)) (ci := 5) (v := .ref (a 11)) (C := R_R) (T := T_R) (N := 18) hx hb htb in_R hown hK hP 0 rfl rfl 15 (by decide) (htb _ wd_464) (fun _ h9 => h9) rfl d_R_locate_12 ?_
    refine lv_iconst (v := nI 3) hx hb d_R_locate_15 (by decide) ?_
    refine lv_iload_n hx hb d_R_locate_16 rfl (lv_at hl 3 rfl) ?_
    refine ec_imul hx hb d_R_locate_17 ?_
    refine ec_ialdN (f := kc) (i := 3 * t) hx hb hK hP 11 0 rfl rfl (by omega) (by decide) d_R_locate_18 ?_
    refine lv_aload_n hx hb d_R_locate_19 rfl (lv_at hl 0 rfl) ?_
    refine va_get (D := (dC, dI)) (ci := 5) (v := .ref (a 11)) (C := R_R) (T := T_R) (N := 18) hx hb htb in_R hown hK hP 0 rfl rfl 15 (by decide) (htb _ wd_464) (fun _ h9 => h9) rfl d_R_locate_20 ?_
    refine lv_iconst (v := nI 3) hx hb d_R_locate_23 (by decide) ?_
    refine lv_iload_n hx hb d_R_locate_24 rfl (lv_at hl 3 rfl) ?_
    refine ec_imul hx hb d_R_locate_25 ?_
    refine lv_iconst (v := nI 1) hx hb d_R_locate_26 (by decide) ?_
    refine ec_iadd hx hb d_R_locate_27 ?_
    refine ec_ialdN (f := kc) (i := (3 * t) + 1) hx hb hK hP 11 0 rfl rfl (by omega) (by decide) d_R_locate_28 ?_
    refine lv_aload_n hx hb d_R_locate_29 rfl (lv_at hl 0 rfl) ?_
    refine va_get (D := (dC, dI)) (ci := 5) (v := .ref (a 11)) (C := R_R) (T := T_R) (N := 18) hx hb htb in_R hown hK hP 0 rfl rfl 15 (by decide) (htb _ wd_464) (fun _ h9 => h9) rfl d_R_locate_30 ?_
    refine lv_iconst (v := nI 3) hx hb d_R_locate_33 (by decide) ?_
    refine lv_iload_n hx hb d_R_locate_34 rfl (lv_at hl 3 rfl) ?_
    refine ec_imul hx hb d_R_locate_35 ?_
    refine lv_iconst (v := nI 2) hx hb d_R_locate_36 (by decide) ?_
    refine ec_iadd hx hb d_R_locate_37 ?_
    refine ec_ialdN (f := kc) (i := (3 * t) + 2) hx hb hK hP 11 0 rfl rfl (by omega) (by decide) d_R_locate_38 ?_
    refine lv_iload_n hx hb d_R_locate_39 rfl (lv_at hl 1 rfl) ?_
    refine lv_i2l hx hb d_R_locate_40 rfl ?_
    refine lv_iload_n hx hb d_R_locate_41 rfl (lv_at hl 2 rfl) ?_
    refine lv_i2l hx hb d_R_locate_42 rfl ?_
    refine ec_vSi (C := "ExactMeshModel") (ci := 5) (q := (R_R, T_R, 18)) (q0 := 0) (As := [.int (nI (kc (3 * t))), .int (nI (kc ((3 * t) + 1))), .int (nI (kc ((3 * t) + 2))), .long vx.toInt64, .long vy.toInt64]) (rest := []) ⟨hx, hb, hml, hown, htb⟩ (c_R_inside l dC dI a cI cZ cJ rn rx ry rl rf rt rh gx gy rc w1 w2 w3 rg rk kc kf kp rest (kc (3 * t)) (kc ((3 * t) + 1)) (kc ((3 * t) + 2)) vx vy g12 gN c0 (by omega) (by omega)) kv_R_inside hK hP rfl rfl rfl wd_610 ⟨Nat.le_of_ble_eq_true rfl, Nat.le_of_ble_eq_true rfl⟩ ⟨rfl, rfl⟩ rfl hl.1 rfl (Nat.le_of_ble_eq_true rfl) d_R_locate_43 ⟨Nat.zero_le _, Nat.zero_le _⟩ (fun r43 hr43 => ?_)
    replace hr43 : ec_isB r43 (ec_in3 rx ry (kc (3 * t)) (kc ((3 * t) + 1)) (kc ((3 * t) + 2)) vx vy) := hr43
    refine ec_if_eqB (tgt := 51) hx hb hr43 d_R_locate_46 rfl (fun h46 => ?_) (fun h46 => ?_)
    · refine ec_iinc (k := 3) hx hb d_R_locate_51 hl rfl (by decide) rfl (fun ls hl => ?_)
      replace hl : lv_has ls 4 [(3, .int (nI (t + 1))), (0, .ref (a 0)), (1, .int vx), (2, .int vy)] := hl
      refine lv_goto (tgt := 2) hx hb d_R_locate_54 rfl ?_
      exact ih2 _ (by omega) (t := t + 1) (ls := ls) (hl := lv_sub hl [1, 2, 3, 0] rfl) (hle := (by omega)) (hI := (lt_s hI h46)) (hk2 := rfl)
    · refine lv_iload_n hx hb d_R_locate_49 rfl (lv_at hl 3 rfl) ?_
      exact W.iret hx hb hr (fun tS ht hW => ⟨_, rfl, ⟨some t, rfl, fun v q => by cases q; exact ⟨by omega, h46, hI⟩, fun q => (by cases q)⟩, ht⟩) (fun _ h => nomatch h) d_R_locate_50

set_option maxRecDepth 100000 in
set_option maxHeartbeats 4000000 in
theorem c_R_degree (l : Launch) (dC : Nat → ClassId) (dI : Nat → Nat → Nat) (a : Nat → Nat) (cI cZ cJ : ClassId) (rn : Nat) (rx : Nat → Int32) (ry : Nat → Int32) (rl : Nat) (rf : Nat → Nat) (rt : Nat → Nat) (rh : Nat) (gx : Nat → Int32) (gy : Nat → Int32) (rc : Nat) (w1 : Nat → Nat) (w2 : Nat → Nat) (w3 : Nat → Nat) (rg : Nat → Prop) (rk : Nat) (kc : Nat → Nat) (kf : Nat → Prop) (kp : Nat → Int64) (rest : va_W) (v : Int32) (g12 : rn ≤ 12) (grk : rk ≤ 19) : Met l y_R_degree (Cond.code y_R_degree b_R_degree 4 (some .int) :: ec_tbl) ({ frames := 1, cells := 0, slots := 0, locals := 21 }) (va_Pc [.ref (a 0), .int v] (fun U => va_P (dC, dI) vwCl (wR a cI cZ cJ rn rx ry rl rf rt rh gx gy rc w1 w2 w3 rg rk kc kf kp ++ rest) U.heap ∧ va_K (dC, dI) vwCl (ec_tys cI cZ cJ) U)) (vp_Si (fun r : Int32 => r = ec_degF rn rk kc v)) 0 0 (fun _ => False) := by
  refine Met.ofW (cc := b_R_degree) (maxL := 4) (ret := (some .int)) (by decide) rfl ?_
  intro p e s m args below meth c s₁ B hml hv0
  obtain ⟨rfl, hP, hK⟩ := hv0
  have hx := B.exec
  have hb := B.bytes
  have hr := B.returns
  have hts := atoms_spec (ws := (Cond.code y_R_degree b_R_degree 4 (some .int) :: ec_tbl)) B.pre
  have htb : ∀ w ∈ ec_tbl, w.before _ s = true := fun w h => hts w (List.mem_cons_of_mem _ h)
  clear hts
  have hown : s.vm.findClass "ExactMeshModel" = some m.cls := findClass_of_methodNamed B.named
  have hlocks := B.notSynchronized
  have hl := lv_entry ([.ref (a 0), .int v]) (n := 4) (Nat.le_of_ble_eq_true rfl)
  rw [lg_entry_eq]
  generalize (lg_sl ([.ref (a 0), .int v]) ++ List.replicate (4 - (lg_sl ([.ref (a 0), .int v])).length) Slot.unset).toArray = ls at hl ⊢
  replace hl : lv_has ls 4 [(0, .ref (a 0)), (1, .int v)] := hl
  refine lv_aload_n hx hb d_R_degree_0 rfl (lv_at hl 0 rfl) ?_
  refine lv_iload_n hx hb d_R_degree_1 rfl (lv_at hl 1 rfl) ?_
  refine ec_vSi (C := "ExactMeshModel") (ci := 5) (q := (R_R, T_R, 18)) (q0 := 0) (As := [.int v]) (rest := []) ⟨hx, hb, hml, hown, htb⟩ (c_R_isPoint l dC dI a cI cZ cJ rn rx ry rl rf rt rh gx gy rc w1 w2 w3 rg rk kc kf kp rest v g12) kv_R_isPoint hK hP rfl rfl rfl wd_529 ⟨Nat.le_of_ble_eq_true rfl, Nat.le_of_ble_eq_true rfl⟩ ⟨rfl, rfl⟩ rfl hl.1 rfl (Nat.le_of_ble_eq_true rfl) d_R_degree_2 ⟨Nat.zero_le _, Nat.zero_le _⟩ (fun r2 hr2 => ?_)
  replace hr2 : ec_isB r2 (0 ≤ v.toInt ∧ v.toInt < rn) := hr2
  refine ec_if_neB (tgt := 10) hx hb hr2 d_R_degree_5 rfl (fun h5 => ?_) (fun h5 => ?_)
  · refine lv_iconst (v := nI 0) hx hb d_R_degree_10 (by decide) ?_
    refine lv_istore_n hx hb d_R_degree_11 rfl hl (by decide) rfl (fun ls hl => ?_)
    replace hl : lv_has ls 4 [(2, .int (nI 0)), (0, .ref (a 0)), (1, .int v)] := hl
    refine lv_iconst (v := nI 0) hx hb d_R_degree_12 (by decide) ?_
    refine lv_istore_n hx hb d_R_degree_13 rfl hl (by decide) rfl (fun ls hl => ?_)
    replace hl : lv_has ls 4 [(3, .int (nI 0)), (2, .int (nI 0)), (0, .ref (a 0)), (1, .int v)] := hl
    obtain ⟨i, e_i⟩ : ∃ z : Nat, z = 0 := ⟨_, rfl⟩
    obtain ⟨f, e_f⟩ : ∃ z : Nat, z = 0 := ⟨_, rfl⟩
    replace hl : lv_has ls 4 [(0, .ref (a 0)), (1, .int v), (2, .int (nI f)), (3, .int (nI i))] := by (try simp only [e_i, e_f]); exact lv_sub hl [2, 3, 1, 0] rfl
    have hle : i ≤ 3 * rk := by omega
    have hf : f = ec_deg kc v i := by rw [e_i, e_f]; rfl
    clear e_f e_i
    generalize hk14 : 3 * rk - i = k14
    induction k14 using Nat.strongRecOn generalizing i f ls with
    | ind k14 ih14 =>
    refine lv_iload_n hx hb d_R_degree_14 rfl (lv_at hl 3 rfl) ?_
    refine lv_iconst (v := nI 3) hx hb d_R_degree_15 (by decide) ?_
    refine lv_aload_n hx hb d_R_degree_16 rfl (lv_at hl 0 rfl) ?_
    refine va_get (D := (dC, dI)) (ci := 5) (v := .int (nI rk)) (C := R_R) (T := T_R) (N := 18) hx hb htb in_R hown hK hP 0 rfl rfl 14 (by decide) (htb _ wd_463) (fun _ h9 => h9) rfl d_R_degree_17 ?_
    refine ec_imul hx hb d_R_degree_20 ?_
    refine ec_icmp_ge (tgt := 48) hx hb d_R_degree_21 rfl (by omega) (by omega) (fun h21 => ?_) (fun h21 => ?_)
    · refine lv_iload_n hx hb d_R_degree_48 rfl (lv_at hl 2 rfl) ?_
      exact W.iret hx hb hr (fun tS ht hW => ⟨_, rfl, (by rw [hf, show i = 3 * rk by omega]; exact ec_degF_y h5), ht⟩) (fun _ h => nomatch h) d_R_degree_49
    · refine lv_aload_n hx hb d_R_degree_24 rfl (lv_at hl 0 rfl) ?_
      refine va_get (D := (dC, dI)) (ci := 5) (v := .ref (a 11)) (C := R_R) (T := T_R) (N := 18) hx hb htb in_R hown hK hP 0 rfl rfl 15 (by decide) (htb _ wd_464) (fun _ h9 => h9) rfl d_R_degree_25 ?_
      refine lv_iload_n hx hb d_R_degree_28 rfl (lv_at hl 3 rfl) ?_
      refine ec_ialdN (f := kc) (i := i) hx hb hK hP 11 0 rfl rfl (by omega) (by decide) d_R_degree_29 ?_
      refine lv_iload_n hx hb d_R_degree_30 rfl (lv_at hl 1 rfl) ?_
      refine lv_icmp_ne (tgt := 40) hx hb d_R_degree_31 rfl (fun h31 => ?_) (fun h31 => ?_)
      · refine lv_iload_n hx hb d_R_degree_40 rfl (lv_at hl 2 rfl) ?_
        refine lv_istore_n hx hb d_R_degree_41 rfl hl (by decide) rfl (fun ls hl => ?_)
        replace hl : lv_has ls 4 [(2, .int (nI f)), (0, .ref (a 0)), (1, .int v), (3, .int (nI i))] := hl
        refine ec_iinc (k := 3) hx hb d_R_degree_42 hl rfl (by decide) rfl (fun ls hl => ?_)
        replace hl : lv_has ls 4 [(3, .int (nI (i + 1))), (2, .int (nI f)), (0, .ref (a 0)), (1, .int v)] := hl
        refine lv_goto (tgt := 14) hx hb d_R_degree_45 rfl ?_
        exact ih14 _ (by omega) (i := i + 1) (f := f) (ls := ls) (hl := lv_sub hl [2, 3, 1, 0] rfl) (hle := (by omega)) (hf := (by unfold ec_deg; rw [hf, if_neg h31, Nat.add_zero])) (hk14 := rfl)
      · refine lv_iload_n hx hb d_R_degree_34 rfl (lv_at hl 2 rfl) ?_
        refine lv_iconst (v := nI 1) hx hb d_R_degree_35 (by decide) ?_
        refine ec_iadd hx hb d_R_degree_36 ?_
        refine lv_goto (tgt := 41) hx hb d_R_degree_37 rfl ?_
        refine lv_istore_n hx hb d_R_degree_41 rfl hl (by decide) rfl (fun ls hl => ?_)
        replace hl : lv_has ls 4 [(2, .int (nI (f + 1))), (0, .ref (a 0)), (1, .int v), (3, .int (nI i))] := hl
        refine ec_iinc (k := 3) hx hb d_R_degree_42 hl rfl (by decide) rfl (fun ls hl => ?_)
        replace hl : lv_has ls 4 [(3, .int (nI (i + 1))), (2, .int (nI (f + 1))), (0, .ref (a 0)), (1, .int v)] := hl
        refine lv_goto (tgt := 14) hx hb d_R_degree_45 rfl ?_
        exact ih14 _ (by omega) (i := i + 1) (f := f + 1) (ls := ls) (hl := lv_sub hl [2, 3, 1, 0] rfl) (hle := (by omega)) (hf := (by unfold ec_deg; rw [hf, if_pos h31])) (hk14 := rfl)
  · refine lv_iconst (v := -1) hx hb d_R_degree_8 (by decide) ?_
    exact W.iret hx hb hr (fun tS ht hW => ⟨_, rfl, (ec_degF_n h5), ht⟩) (fun _ h => nomatch h) d_R_degree_9

set_option maxRecDepth 100000 in
set_option maxHeartbeats 4000000 in
theorem c_R_area (l : Launch) (dC : Nat → ClassId) (dI : Nat → Nat → Nat) (a : Nat → Nat) (cI cZ cJ : ClassId) (rn : Nat) (rx : Nat → Int32) (ry : Nat → Int32) (rl : Nat) (rf : Nat → Nat) (rt : Nat → Nat) (rh : Nat) (gx : Nat → Int32) (gy : Nat → Int32) (rc : Nat) (w1 : Nat → Nat) (w2 : Nat → Nat) (w3 : Nat → Nat) (rg : Nat → Prop) (rk : Nat) (kc : Nat → Nat) (kf : Nat → Prop) (kp : Nat → Int64) (rest : va_W) (g12 : rn ≤ 12) (gN : ∀ i, i < rn → ec_near (rx i) ∧ ec_near (ry i)) (grk : rk ≤ 19) (gkc : ∀ i, i < 3 * rk → kc i < rn) : Met l y_R_area (Cond.code y_R_area b_R_area 4 (some .long) :: ec_tbl) ({ frames := 2, cells := 0, slots := 0, locals := 54 }) (va_Pc [.ref (a 0)] (fun U => va_P (dC, dI) vwCl (wR a cI cZ cJ rn rx ry rl rf rt rh gx gy rc w1 w2 w3 rg rk kc kf kp ++ rest) U.heap ∧ va_K (dC, dI) vwCl (ec_tys cI cZ cJ) U)) (vp_Sl (fun r : Int64 => r = ec_sumL (ec_arT rx ry kc) rk)) 0 0 (fun _ => False) := by
  refine Met.ofW (cc := b_R_area) (maxL := 4) (ret := (some .long)) (by decide) rfl ?_
  intro p e s m args below meth c s₁ B hml hv0
  obtain ⟨rfl, hP, hK⟩ := hv0
  have hx := B.exec
  have hb := B.bytes
  have hr := B.returns
  have hts := atoms_spec (ws := (Cond.code y_R_area b_R_area 4 (some .long) :: ec_tbl)) B.pre
  have htb : ∀ w ∈ ec_tbl, w.before _ s = true := fun w h => hts w (List.mem_cons_of_mem _ h)
  clear hts
  have hown : s.vm.findClass "ExactMeshModel" = some m.cls := findClass_of_methodNamed B.named
  have hlocks := B.notSynchronized
  have hl := lv_entry ([.ref (a 0)]) (n := 4) (Nat.le_of_ble_eq_true rfl)
  rw [lg_entry_eq]
  generalize (lg_sl ([.ref (a 0)]) ++ List.replicate (4 - (lg_sl ([.ref (a 0)])).length) Slot.unset).toArray = ls at hl ⊢
  replace hl : lv_has ls 4 [(0, .ref (a 0))] := hl
  refine lv_lconst (v := 0) hx hb d_R_area_0 (by decide) ?_
  refine lv_lstore_n hx hb d_R_area_1 rfl hl (by decide) rfl (fun ls hl => ?_)
  replace hl : lv_has ls 4 [(1, .long 0), (0, .ref (a 0))] := hl
  refine lv_iconst (v := nI 0) hx hb d_R_area_2 (by decide) ?_
  refine lv_istore_n hx hb d_R_area_3 rfl hl (by decide) rfl (fun ls hl => ?_)
  replace hl : lv_has ls 4 [(3, .int (nI 0)), (1, .long 0), (0, .ref (a 0))] := hl
  obtain ⟨f, e_f⟩ : ∃ z : Int64, z = 0 := ⟨_, rfl⟩
  obtain ⟨t, e_t⟩ : ∃ z : Nat, z = 0 := ⟨_, rfl⟩
  replace hl : lv_has ls 4 [(0, .ref (a 0)), (1, .long f), (3, .int (nI t))] := by (try simp only [e_f, e_t]); exact lv_sub hl [2, 1, 0] rfl
  have hle : t ≤ rk := by omega
  have hf : f = ec_sumL (ec_arT rx ry kc) t := by rw [e_t, e_f]; rfl
  clear e_t e_f
  generalize hk4 : rk - t = k4
  induction k4 using Nat.strongRecOn generalizing f t ls with
  | ind k4 ih4 =>
  refine lv_iload_n hx hb d_R_area_4 rfl (lv_at hl 2 rfl) ?_
  refine lv_aload_n hx hb d_R_area_5 rfl (lv_at hl 0 rfl) ?_
  refine va_get (D := (dC, dI)) (ci := 5) (v := .int (nI rk)) (C := R_R) (T := T_R) (N := 18) hx hb htb in_R hown hK hP 0 rfl rfl 14 (by decide) (htb _ wd_463) (fun _ h9 => h9) rfl d_R_area_6 ?_
  refine ec_icmp_ge (tgt := 53) hx hb d_R_area_9 rfl (by omega) (by omega) (fun h9 => ?_) (fun h9 => ?_)
  · refine lv_lload_n hx hb d_R_area_53 rfl (lv_at hl 1 rfl) ?_
    exact W.lret hx hb hr (fun tS ht hW => ⟨_, rfl, (by rw [hf, show t = rk by omega]), ht⟩) (fun _ h => nomatch h) d_R_area_54
  · have c0 := gkc (3 * t + 0) (by omega)
    have c1 := gkc (3 * t + 1) (by omega)
    have c2 := gkc (3 * t + 2) (by omega)
    refine lv_lload_n hx hb d_R_area_12 rfl (lv_at hl 1 rfl) ?_
    refine lv_aload_n hx hb d_R_area_13 rfl (lv_at hl 0 rfl) ?_
    refine lv_aload_n hx hb d_R_area_14 rfl (lv_at hl 0 rfl) ?_
    refine va_get (D := (dC, dI)) (ci := 5) (v := .ref (a 11)) (C := R_R) (T := T_R) (N := 18) hx hb htb in_R hown hK hP 0 rfl rfl 15 (by decide) (htb _ wd_464) (fun _ h9 => h9) rfl d_R_area_15 ?_
    refine lv_iconst (v := nI 3) hx hb d_R_area_18 (by decide) ?_
    refine lv_iload_n hx hb d_R_area_19 rfl (lv_at hl 2 rfl) ?_
    refine ec_imul hx hb d_R_area_20 ?_
    refine ec_ialdN (f := kc) (i := 3 * t) hx hb hK hP 11 0 rfl rfl (by omega) (by decide) d_R_area_21 ?_
    refine lv_aload_n hx hb d_R_area_22 rfl (lv_at hl 0 rfl) ?_
    refine va_get (D := (dC, dI)) (ci := 5) (v := .ref (a 11)) (C := R_R) (T := T_R) (N := 18) hx hb htb in_R hown hK hP 0 rfl rfl 15 (by decide) (htb _ wd_464) (fun _ h9 => h9) rfl d_R_area_23 ?_
    refine lv_iconst (v := nI 3) hx hb d_R_area_26 (by decide) ?_
    refine lv_iload_n hx hb d_R_area_27 rfl (lv_at hl 2 rfl) ?_
    refine ec_imul hx hb d_R_area_28 ?_
    refine lv_iconst (v := nI 1) hx hb d_R_area_29 (by decide) ?_
    refine ec_iadd hx hb d_R_area_30 ?_
    refine ec_ialdN (f := kc) (i := (3 * t) + 1) hx hb hK hP 11 0 rfl rfl (by omega) (by decide) d_R_area_31 ?_
    refine lv_aload_n hx hb d_R_area_32 rfl (lv_at hl 0 rfl) ?_
    refine va_get (D := (dC, dI)) (ci := 5) (v := .ref (a 11)) (C := R_R) (T := T_R) (N := 18) hx hb htb in_R hown hK hP 0 rfl rfl 15 (by decide) (htb _ wd_464) (fun _ h9 => h9) rfl d_R_area_33 ?_
    refine lv_iconst (v := nI 3) hx hb d_R_area_36 (by decide) ?_
    refine lv_iload_n hx hb d_R_area_37 rfl (lv_at hl 2 rfl) ?_
    refine ec_imul hx hb d_R_area_38 ?_
    refine lv_iconst (v := nI 2) hx hb d_R_area_39 (by decide) ?_
    refine ec_iadd hx hb d_R_area_40 ?_
    refine ec_ialdN (f := kc) (i := (3 * t) + 2) hx hb hK hP 11 0 rfl rfl (by omega) (by decide) d_R_area_41 ?_
    refine ec_vSl (C := "ExactMeshModel") (ci := 5) (q := (R_R, T_R, 18)) (q0 := 0) (As := [.int (nI (kc (3 * t))), .int (nI (kc ((3 * t) + 1))), .int (nI (kc ((3 * t) + 2)))]) (rest := [.long f]) ⟨hx, hb, hml, hown, htb⟩ (c_R_of l dC dI a cI cZ cJ rn rx ry rl rf rt rh gx gy rc w1 w2 w3 rg rk kc kf kp rest (kc (3 * t)) (kc ((3 * t) + 1)) (kc ((3 * t) + 2)) g12 gN c0 (by omega) (by omega)) kv_R_of hK hP rfl rfl rfl wd_541 ⟨Nat.le_of_ble_eq_true rfl, Nat.le_of_ble_eq_true rfl⟩ ⟨rfl, rfl⟩ rfl hl.1 rfl (Nat.le_of_ble_eq_true rfl) d_R_area_42 ⟨Nat.zero_le _, Nat.zero_le _⟩ (fun r42 hr42 => ?_)
    replace hr42 : r42.toInt = ge_ori (ec_P rx ry (kc (3 * t))) (ec_P rx ry (kc ((3 * t) + 1))) (ec_P rx ry (kc ((3 * t) + 2))) := hr42
    refine lv_ladd hx hb d_R_area_45 ?_
    refine lv_topl (fun v1 e_v1 => ?_)
    refine lv_lstore_n hx hb d_R_area_46 rfl hl (by decide) rfl (fun ls hl => ?_)
    replace hl : lv_has ls 4 [(1, .long v1), (0, .ref (a 0)), (3, .int (nI t))] := hl
    refine ec_iinc (k := 2) hx hb d_R_area_47 hl rfl (by decide) rfl (fun ls hl => ?_)
    replace hl : lv_has ls 4 [(3, .int (nI (t + 1))), (1, .long v1), (0, .ref (a 0))] := hl
    refine lv_goto (tgt := 4) hx hb d_R_area_50 rfl ?_
    exact ih4 _ (by omega) (f := v1) (t := t + 1) (ls := ls) (hl := lv_sub hl [2, 1, 0] rfl) (hle := (by omega)) (hf := (by unfold ec_sumL; rw [e_v1, hf]; exact congrArg _ (ec_L_of hr42))) (hk4 := rfl)

set_option maxRecDepth 100000 in
set_option maxHeartbeats 4000000 in
theorem c_R_border (l : Launch) (dC : Nat → ClassId) (dI : Nat → Nat → Nat) (a : Nat → Nat) (cI cZ cJ : ClassId) (rn : Nat) (rx : Nat → Int32) (ry : Nat → Int32) (rl : Nat) (rf : Nat → Nat) (rt : Nat → Nat) (rh : Nat) (gx : Nat → Int32) (gy : Nat → Int32) (rc : Nat) (w1 : Nat → Nat) (w2 : Nat → Nat) (w3 : Nat → Nat) (rg : Nat → Prop) (rk : Nat) (kc : Nat → Nat) (kf : Nat → Prop) (kp : Nat → Int64) (rest : va_W) (g12 : rn ≤ 12) (grk : rk ≤ 19) (gkc : ∀ i, i < 3 * rk → kc i < rn) (guq : ec_uqs rk kc) : Met l y_R_border (Cond.code y_R_border b_R_border 3 (some .int) :: ec_tbl) ({ frames := 2, cells := 0, slots := 0, locals := 48 }) (va_Pc [.ref (a 0)] (fun U => va_P (dC, dI) vwCl (wR a cI cZ cJ rn rx ry rl rf rt rh gx gy rc w1 w2 w3 rg rk kc kf kp ++ rest) U.heap ∧ va_K (dC, dI) vwCl (ec_tys cI cZ cJ) U)) (vp_Si (fun r : Int32 => r = nI (ec_bor rk kc (3 * rk)))) 0 0 (fun _ => False) := by
  refine Met.ofW (cc := b_R_border) (maxL := 3) (ret := (some .int)) (by decide) rfl ?_
  intro p e s m args below meth c s₁ B hml hv0
  obtain ⟨rfl, hP, hK⟩ := hv0
  have hx := B.exec
  have hb := B.bytes
  have hr := B.returns
  have hts := atoms_spec (ws := (Cond.code y_R_border b_R_border 3 (some .int) :: ec_tbl)) B.pre
  have htb : ∀ w ∈ ec_tbl, w.before _ s = true := fun w h => hts w (List.mem_cons_of_mem _ h)
  clear hts
  have hown : s.vm.findClass "ExactMeshModel" = some m.cls := findClass_of_methodNamed B.named
  have hlocks := B.notSynchronized
  have hl := lv_entry ([.ref (a 0)]) (n := 3) (Nat.le_of_ble_eq_true rfl)
  rw [lg_entry_eq]
  generalize (lg_sl ([.ref (a 0)]) ++ List.replicate (3 - (lg_sl ([.ref (a 0)])).length) Slot.unset).toArray = ls at hl ⊢
  replace hl : lv_has ls 3 [(0, .ref (a 0))] := hl
  refine lv_iconst (v := nI 0) hx hb d_R_border_0 (by decide) ?_
  refine lv_istore_n hx hb d_R_border_1 rfl hl (by decide) rfl (fun ls hl => ?_)
  replace hl : lv_has ls 3 [(1, .int (nI 0)), (0, .ref (a 0))] := hl
  refine lv_iconst (v := nI 0) hx hb d_R_border_2 (by decide) ?_
  refine lv_istore_n hx hb d_R_border_3 rfl hl (by decide) rfl (fun ls hl => ?_)
  replace hl : lv_has ls 3 [(2, .int (nI 0)), (1, .int (nI 0)), (0, .ref (a 0))] := hl
  obtain ⟨i, e_i⟩ : ∃ z : Nat, z = 0 := ⟨_, rfl⟩
  obtain ⟨f, e_f⟩ : ∃ z : Nat, z = 0 := ⟨_, rfl⟩
  replace hl : lv_has ls 3 [(0, .ref (a 0)), (1, .int (nI f)), (2, .int (nI i))] := by (try simp only [e_i, e_f]); exact lv_sub hl [2, 1, 0] rfl
  have hle : i ≤ 3 * rk := by omega
  have hf : f = ec_bor rk kc i := by rw [e_i, e_f]; rfl
  clear e_f e_i
  generalize hk4 : 3 * rk - i = k4
  induction k4 using Nat.strongRecOn generalizing i f ls with
  | ind k4 ih4 =>
  refine lv_iload_n hx hb d_R_border_4 rfl (lv_at hl 2 rfl) ?_
  refine lv_iconst (v := nI 3) hx hb d_R_border_5 (by decide) ?_
  refine lv_aload_n hx hb d_R_border_6 rfl (lv_at hl 0 rfl) ?_
  refine va_get (D := (dC, dI)) (ci := 5) (v := .int (nI rk)) (C := R_R) (T := T_R) (N := 18) hx hb htb in_R hown hK hP 0 rfl rfl 14 (by decide) (htb _ wd_463) (fun _ h9 => h9) rfl d_R_border_7 ?_
  refine ec_imul hx hb d_R_border_10 ?_
  refine ec_icmp_ge (tgt := 41) hx hb d_R_border_11 rfl (by omega) (by omega) (fun h11 => ?_) (fun h11 => ?_)
  · refine lv_iload_n hx hb d_R_border_41 rfl (lv_at hl 1 rfl) ?_
    exact W.iret hx hb hr (fun tS ht hW => ⟨_, rfl, (by rw [hf, show i = 3 * rk by omega]), ht⟩) (fun _ h => nomatch h) d_R_border_42
  · refine lv_aload_n hx hb d_R_border_14 rfl (lv_at hl 0 rfl) ?_
    refine lv_iload_n hx hb d_R_border_15 rfl (lv_at hl 2 rfl) ?_
    refine lv_iconst (v := nI 3) hx hb d_R_border_16 (by decide) ?_
    refine lv_idiv hx hb d_R_border_17 (by decide) ?_
    refine lv_topi (fun yN eyN => ?_)
    obtain rfl : yN = nI (i / 3) := eyN.trans (ec_div3 i (by omega))
    refine lv_iload_n hx hb d_R_border_18 rfl (lv_at hl 2 rfl) ?_
    refine lv_iconst (v := nI 3) hx hb d_R_border_19 (by decide) ?_
    refine lv_irem hx hb d_R_border_20 (by decide) ?_
    refine lv_topi (fun yM eyM => ?_)
    obtain rfl : yM = nI (i % 3) := eyM.trans (ec_rem3 i (by omega))
    refine ec_vSi (C := "ExactMeshModel") (ci := 5) (q := (R_R, T_R, 18)) (q0 := 0) (As := [.int (nI (i / 3)), .int (nI (i % 3))]) (rest := []) ⟨hx, hb, hml, hown, htb⟩ (c_R_across l dC dI a cI cZ cJ rn rx ry rl rf rt rh gx gy rc w1 w2 w3 rg rk kc kf kp rest (nI (i / 3)) (nI (i % 3)) g12 grk gkc guq) kv_R_across hK hP rfl rfl rfl wd_666 ⟨Nat.le_of_ble_eq_true rfl, Nat.le_of_ble_eq_true rfl⟩ ⟨rfl, rfl⟩ rfl hl.1 rfl (Nat.le_of_ble_eq_true rfl) d_R_border_21 ⟨Nat.zero_le _, Nat.zero_le _⟩ (fun r21 hr21 => ?_)
    replace hr21 : r21 = ec_acrF rk kc (nI (i / 3)) (nI (i % 3)) := hr21
    subst hr21
    refine lv_if_ge (tgt := 33) hx hb d_R_border_24 rfl (fun h24 => ?_) (fun h24 => ?_)
    · refine lv_iload_n hx hb d_R_border_33 rfl (lv_at hl 1 rfl) ?_
      refine lv_istore_n hx hb d_R_border_34 rfl hl (by decide) rfl (fun ls hl => ?_)
      replace hl : lv_has ls 3 [(1, .int (nI f)), (0, .ref (a 0)), (2, .int (nI i))] := hl
      refine ec_iinc (k := 2) hx hb d_R_border_35 hl rfl (by decide) rfl (fun ls hl => ?_)
      replace hl : lv_has ls 3 [(2, .int (nI (i + 1))), (1, .int (nI f)), (0, .ref (a 0))] := hl
      refine lv_goto (tgt := 4) hx hb d_R_border_38 rfl ?_
      exact ih4 _ (by omega) (i := i + 1) (f := f) (ls := ls) (hl := lv_sub hl [2, 1, 0] rfl) (hle := (by omega)) (hf := (by unfold ec_bor; rw [hf, ec_if_f ((ec_acrF_neg (by omega) h11).2 h24), Nat.add_zero])) (hk4 := rfl)
    · refine lv_iload_n hx hb d_R_border_27 rfl (lv_at hl 1 rfl) ?_
      refine lv_iconst (v := nI 1) hx hb d_R_border_28 (by decide) ?_
      refine ec_iadd hx hb d_R_border_29 ?_
      refine lv_goto (tgt := 34) hx hb d_R_border_30 rfl ?_
      refine lv_istore_n hx hb d_R_border_34 rfl hl (by decide) rfl (fun ls hl => ?_)
      replace hl : lv_has ls 3 [(1, .int (nI (f + 1))), (0, .ref (a 0)), (2, .int (nI i))] := hl
      refine ec_iinc (k := 2) hx hb d_R_border_35 hl rfl (by decide) rfl (fun ls hl => ?_)
      replace hl : lv_has ls 3 [(2, .int (nI (i + 1))), (1, .int (nI (f + 1))), (0, .ref (a 0))] := hl
      refine lv_goto (tgt := 4) hx hb d_R_border_38 rfl ?_
      exact ih4 _ (by omega) (i := i + 1) (f := f + 1) (ls := ls) (hl := lv_sub hl [2, 1, 0] rfl) (hle := (by omega)) (hf := (by unfold ec_bor; rw [hf, ec_if_t ((ec_acrF_neg (by omega) h11).1 h24)])) (hk4 := rfl)

set_option maxRecDepth 100000 in
set_option maxHeartbeats 4000000 in
theorem c_R_vertices (l : Launch) (dC : Nat → ClassId) (dI : Nat → Nat → Nat) (a : Nat → Nat) (cI cZ cJ : ClassId) (rn : Nat) (rx : Nat → Int32) (ry : Nat → Int32) (rl : Nat) (rf : Nat → Nat) (rt : Nat → Nat) (rh : Nat) (gx : Nat → Int32) (gy : Nat → Int32) (rc : Nat) (w1 : Nat → Nat) (w2 : Nat → Nat) (w3 : Nat → Nat) (rg : Nat → Prop) (rk : Nat) (kc : Nat → Nat) (kf : Nat → Prop) (kp : Nat → Int64) (rest : va_W) : Met l y_R_vertices (Cond.code y_R_vertices b_R_vertices 1 (some .int) :: ec_tbl) ({ frames := 0, cells := 0, slots := 0, locals := 0 }) (va_Pc [.ref (a 0)] (fun U => va_P (dC, dI) vwCl (wR a cI cZ cJ rn rx ry rl rf rt rh gx gy rc w1 w2 w3 rg rk kc kf kp ++ rest) U.heap ∧ va_K (dC, dI) vwCl (ec_tys cI cZ cJ) U)) (vp_Si (fun r : Int32 => r = nI rn)) 0 0 (fun _ => False) := by
  refine Met.ofW (cc := b_R_vertices) (maxL := 1) (ret := (some .int)) (by decide) rfl ?_
  intro p e s m args below meth c s₁ B hml hv0
  obtain ⟨rfl, hP, hK⟩ := hv0
  have hx := B.exec
  have hb := B.bytes
  have hr := B.returns
  have hts := atoms_spec (ws := (Cond.code y_R_vertices b_R_vertices 1 (some .int) :: ec_tbl)) B.pre
  have htb : ∀ w ∈ ec_tbl, w.before _ s = true := fun w h => hts w (List.mem_cons_of_mem _ h)
  clear hts
  have hown : s.vm.findClass "ExactMeshModel" = some m.cls := findClass_of_methodNamed B.named
  have hlocks := B.notSynchronized
  have hl := lv_entry ([.ref (a 0)]) (n := 1) (Nat.le_of_ble_eq_true rfl)
  rw [lg_entry_eq]
  generalize (lg_sl ([.ref (a 0)]) ++ List.replicate (1 - (lg_sl ([.ref (a 0)])).length) Slot.unset).toArray = ls at hl ⊢
  replace hl : lv_has ls 1 [(0, .ref (a 0))] := hl
  refine lv_aload_n hx hb d_R_vertices_0 rfl (lv_at hl 0 rfl) ?_
  refine va_get (D := (dC, dI)) (ci := 5) (v := .int (nI rn)) (C := R_R) (T := T_R) (N := 18) hx hb htb in_R hown hK hP 0 rfl rfl 0 (by decide) (htb _ wd_449) (fun _ h9 => h9) rfl d_R_vertices_1 ?_
  exact W.iret hx hb hr (fun tS ht hW => ⟨_, rfl, rfl, ht⟩) (fun _ h => nomatch h) d_R_vertices_4

set_option maxRecDepth 100000 in
set_option maxHeartbeats 4000000 in
theorem c_R_segments (l : Launch) (dC : Nat → ClassId) (dI : Nat → Nat → Nat) (a : Nat → Nat) (cI cZ cJ : ClassId) (rn : Nat) (rx : Nat → Int32) (ry : Nat → Int32) (rl : Nat) (rf : Nat → Nat) (rt : Nat → Nat) (rh : Nat) (gx : Nat → Int32) (gy : Nat → Int32) (rc : Nat) (w1 : Nat → Nat) (w2 : Nat → Nat) (w3 : Nat → Nat) (rg : Nat → Prop) (rk : Nat) (kc : Nat → Nat) (kf : Nat → Prop) (kp : Nat → Int64) (rest : va_W) : Met l y_R_segments (Cond.code y_R_segments b_R_segments 1 (some .int) :: ec_tbl) ({ frames := 0, cells := 0, slots := 0, locals := 0 }) (va_Pc [.ref (a 0)] (fun U => va_P (dC, dI) vwCl (wR a cI cZ cJ rn rx ry rl rf rt rh gx gy rc w1 w2 w3 rg rk kc kf kp ++ rest) U.heap ∧ va_K (dC, dI) vwCl (ec_tys cI cZ cJ) U)) (vp_Si (fun r : Int32 => r = nI rl)) 0 0 (fun _ => False) := by
  refine Met.ofW (cc := b_R_segments) (maxL := 1) (ret := (some .int)) (by decide) rfl ?_
  intro p e s m args below meth c s₁ B hml hv0
  obtain ⟨rfl, hP, hK⟩ := hv0
  have hx := B.exec
  have hb := B.bytes
  have hr := B.returns
  have hts := atoms_spec (ws := (Cond.code y_R_segments b_R_segments 1 (some .int) :: ec_tbl)) B.pre
  have htb : ∀ w ∈ ec_tbl, w.before _ s = true := fun w h => hts w (List.mem_cons_of_mem _ h)
  clear hts
  have hown : s.vm.findClass "ExactMeshModel" = some m.cls := findClass_of_methodNamed B.named
  have hlocks := B.notSynchronized
  have hl := lv_entry ([.ref (a 0)]) (n := 1) (Nat.le_of_ble_eq_true rfl)
  rw [lg_entry_eq]
  generalize (lg_sl ([.ref (a 0)]) ++ List.replicate (1 - (lg_sl ([.ref (a 0)])).length) Slot.unset).toArray = ls at hl ⊢
  replace hl : lv_has ls 1 [(0, .ref (a 0))] := hl
  refine lv_aload_n hx hb d_R_segments_0 rfl (lv_at hl 0 rfl) ?_
  refine va_get (D := (dC, dI)) (ci := 5) (v := .int (nI rl)) (C := R_R) (T := T_R) (N := 18) hx hb htb in_R hown hK hP 0 rfl rfl 3 (by decide) (htb _ wd_452) (fun _ h9 => h9) rfl d_R_segments_1 ?_
  exact W.iret hx hb hr (fun tS ht hW => ⟨_, rfl, rfl, ht⟩) (fun _ h => nomatch h) d_R_segments_4

set_option maxRecDepth 100000 in
set_option maxHeartbeats 4000000 in
theorem c_R_place (l : Launch) (dC : Nat → ClassId) (dI : Nat → Nat → Nat) (a : Nat → Nat) (cI cZ cJ : ClassId) (rn : Nat) (rx : Nat → Int32) (ry : Nat → Int32) (rl : Nat) (rf : Nat → Nat) (rt : Nat → Nat) (rh : Nat) (gx : Nat → Int32) (gy : Nat → Int32) (rc : Nat) (w1 : Nat → Nat) (w2 : Nat → Nat) (w3 : Nat → Nat) (rg : Nat → Prop) (rk : Nat) (kc : Nat → Nat) (kf : Nat → Prop) (kp : Nat → Int64) (rest : va_W) (v : Int32) (w : Int32) (g12 : rn ≤ 12) : Met l y_R_place (Cond.code y_R_place b_R_place 3 (some .int) :: ec_tbl) ({ frames := 1, cells := 0, slots := 0, locals := 21 }) (va_Pc [.ref (a 0), .int v, .int w] (fun U => va_P (dC, dI) vwCl (wR a cI cZ cJ rn rx ry rl rf rt rh gx gy rc w1 w2 w3 rg rk kc kf kp ++ rest) U.heap ∧ va_K (dC, dI) vwCl (ec_tys cI cZ cJ) U)) (vp_Si (fun r : Int32 => r = ec_plaF rn rx ry v w)) 0 0 (fun _ => False) := by
  refine Met.ofW (cc := b_R_place) (maxL := 3) (ret := (some .int)) (by decide) rfl ?_
  intro p e s m args below meth c s₁ B hml hv0
  obtain ⟨rfl, hP, hK⟩ := hv0
  have hx := B.exec
  have hb := B.bytes
  have hr := B.returns
  have hts := atoms_spec (ws := (Cond.code y_R_place b_R_place 3 (some .int) :: ec_tbl)) B.pre
  have htb : ∀ w ∈ ec_tbl, w.before _ s = true := fun w h => hts w (List.mem_cons_of_mem _ h)
  clear hts
  have hown : s.vm.findClass "ExactMeshModel" = some m.cls := findClass_of_methodNamed B.named
  have hlocks := B.notSynchronized
  have hl := lv_entry ([.ref (a 0), .int v, .int w]) (n := 3) (Nat.le_of_ble_eq_true rfl)
  rw [lg_entry_eq]
  generalize (lg_sl ([.ref (a 0), .int v, .int w]) ++ List.replicate (3 - (lg_sl ([.ref (a 0), .int v, .int w])).length) Slot.unset).toArray = ls at hl ⊢
  replace hl : lv_has ls 3 [(0, .ref (a 0)), (1, .int v), (2, .int w)] := hl
  refine lv_aload_n hx hb d_R_place_0 rfl (lv_at hl 0 rfl) ?_
  refine lv_iload_n hx hb d_R_place_1 rfl (lv_at hl 1 rfl) ?_
  refine ec_vSi (C := "ExactMeshModel") (ci := 5) (q := (R_R, T_R, 18)) (q0 := 0) (As := [.int v]) (rest := []) ⟨hx, hb, hml, hown, htb⟩ (c_R_isPoint l dC dI a cI cZ cJ rn rx ry rl rf rt rh gx gy rc w1 w2 w3 rg rk kc kf kp rest v g12) kv_R_isPoint hK hP rfl rfl rfl wd_529 ⟨Nat.le_of_ble_eq_true rfl, Nat.le_of_ble_eq_true rfl⟩ ⟨rfl, rfl⟩ rfl hl.1 rfl (Nat.le_of_ble_eq_true rfl) d_R_place_2 ⟨Nat.zero_le _, Nat.zero_le _⟩ (fun r2 hr2 => ?_)
  replace hr2 : ec_isB r2 (0 ≤ v.toInt ∧ v.toInt < rn) := hr2
  refine ec_if_eqB (tgt := 17) hx hb hr2 d_R_place_5 rfl (fun h5 => ?_) (fun h5 => ?_)
  · refine lv_iconst (v := nI 0) hx hb d_R_place_17 (by decide) ?_
    refine lv_goto (tgt := 40) hx hb d_R_place_18 rfl ?_
    exact W.iret hx hb hr (fun tS ht hW => ⟨_, rfl, (ec_plaF_n h5), ht⟩) (fun _ h => nomatch h) d_R_place_40
  · refine lv_iload_n hx hb d_R_place_8 rfl (lv_at hl 2 rfl) ?_
    refine lv_if_lt (tgt := 17) hx hb d_R_place_9 rfl (fun h9 => ?_) (fun h9 => ?_)
    · refine lv_iconst (v := nI 0) hx hb d_R_place_17 (by decide) ?_
      refine lv_goto (tgt := 40) hx hb d_R_place_18 rfl ?_
      exact W.iret hx hb hr (fun tS ht hW => ⟨_, rfl, (ec_pla_R (Or.inl h9)), ht⟩) (fun _ h => nomatch h) d_R_place_40
    · refine lv_iload_n hx hb d_R_place_12 rfl (lv_at hl 2 rfl) ?_
      refine lv_iconst (v := nI 1) hx hb d_R_place_13 (by decide) ?_
      refine lv_icmp_le (tgt := 21) hx hb d_R_place_14 rfl (fun h14 => ?_) (fun h14 => ?_)
      · obtain ⟨i, hi, hi2, rfl⟩ := ec_ofI h5
        refine lv_iload_n hx hb d_R_place_21 rfl (lv_at hl 2 rfl) ?_
        refine lv_if_ne (tgt := 34) hx hb d_R_place_22 rfl (fun h22 => ?_) (fun h22 => ?_)
        · refine lv_aload_n hx hb d_R_place_34 rfl (lv_at hl 0 rfl) ?_
          refine va_get (D := (dC, dI)) (ci := 5) (v := .ref (a 2)) (C := R_R) (T := T_R) (N := 18) hx hb htb in_R hown hK hP 0 rfl rfl 2 (by decide) (htb _ wd_451) (fun _ h9 => h9) rfl d_R_place_35 ?_
          refine lv_iload_n hx hb d_R_place_38 rfl (lv_at hl 1 rfl) ?_
          refine ec_iald (f := ry) (i := i) hx hb hK hP 2 0 rfl rfl (by omega) (by decide) d_R_place_39 ?_
          exact W.iret hx hb hr (fun tS ht hW => ⟨_, rfl, (ec_plaF_1 hi hi2 (ec_w1 h9 h14 h22)), ht⟩) (fun _ h => nomatch h) d_R_place_40
        · refine lv_aload_n hx hb d_R_place_25 rfl (lv_at hl 0 rfl) ?_
          refine va_get (D := (dC, dI)) (ci := 5) (v := .ref (a 1)) (C := R_R) (T := T_R) (N := 18) hx hb htb in_R hown hK hP 0 rfl rfl 1 (by decide) (htb _ wd_450) (fun _ h9 => h9) rfl d_R_place_26 ?_
          refine lv_iload_n hx hb d_R_place_29 rfl (lv_at hl 1 rfl) ?_
          refine ec_iald (f := rx) (i := i) hx hb hK hP 1 0 rfl rfl (by omega) (by decide) d_R_place_30 ?_
          refine lv_goto (tgt := 40) hx hb d_R_place_31 rfl ?_
          exact W.iret hx hb hr (fun tS ht hW => ⟨_, rfl, (ec_plaF_0 hi hi2 h22), ht⟩) (fun _ h => nomatch h) d_R_place_40
      · refine lv_iconst (v := nI 0) hx hb d_R_place_17 (by decide) ?_
        refine lv_goto (tgt := 40) hx hb d_R_place_18 rfl ?_
        exact W.iret hx hb hr (fun tS ht hW => ⟨_, rfl, (ec_pla_R (Or.inr (ec_nle1 h14))), ht⟩) (fun _ h => nomatch h) d_R_place_40
