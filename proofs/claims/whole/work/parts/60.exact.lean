set_option maxRecDepth 100000 in
set_option maxHeartbeats 4000000 in
theorem c_E_signOf (l : Launch) (z : Int64) : Met l y_E_signOf (Cond.code y_E_signOf b_E_signOf 2 (some .int) :: ec_tbl) ({ frames := 0, cells := 0, slots := 0, locals := 0 }) (va_Pc [.long z] (fun _ => True)) (vp_Si (fun r : Int32 => r = ec_sgn z.toInt)) 0 0 (fun _ => False) := by
  refine Met.ofW (cc := b_E_signOf) (maxL := 2) (ret := (some .int)) (by decide) rfl ?_
  intro p e s m args below meth c s₁ B hml hv0
  obtain ⟨rfl, -⟩ := hv0
  have hx := B.exec
  have hb := B.bytes
  have hr := B.returns
  have hts := atoms_spec (ws := (Cond.code y_E_signOf b_E_signOf 2 (some .int) :: ec_tbl)) B.pre
  have htb : ∀ w ∈ ec_tbl, w.before _ s = true := fun w h => hts w (List.mem_cons_of_mem _ h)
  clear hts
  have hown : s.vm.findClass "ExactMesh$Exact" = some m.cls := findClass_of_methodNamed B.named
  have hlocks := B.notSynchronized
  have hl := lv_entry ([.long z]) (n := 2) (Nat.le_of_ble_eq_true rfl)
  rw [lg_entry_eq]
  generalize (lg_sl ([.long z]) ++ List.replicate (2 - (lg_sl ([.long z])).length) Slot.unset).toArray = ls at hl ⊢
  replace hl : lv_has ls 2 [(0, .long z)] := hl
  refine lv_lload_n hx hb d_E_signOf_0 rfl (lv_at hl 0 rfl) ?_
  refine lv_lconst (v := 0) hx hb d_E_signOf_1 (by decide) ?_
  refine W.lcmp hx hb d_E_signOf_2 ?_
  refine lv_if_ne (tgt := 8) hx hb d_E_signOf_3 rfl (fun h3 => ?_) (fun h3 => ?_)
  · rw [lg_cmp_eq] at h3
    refine lv_lload_n hx hb d_E_signOf_8 rfl (lv_at hl 0 rfl) ?_
    refine lv_lconst (v := 0) hx hb d_E_signOf_9 (by decide) ?_
    refine W.lcmp hx hb d_E_signOf_10 ?_
    refine lv_if_le (tgt := 18) hx hb d_E_signOf_11 rfl (fun h11 => ?_) (fun h11 => ?_)
    · rw [lg_cmp_le] at h11
      refine lv_iconst (v := -1) hx hb d_E_signOf_18 (by decide) ?_
      exact W.iret hx hb hr (fun tS ht hW => ⟨_, rfl, (ec_sgm h3 h11), ht⟩) (fun _ h => nomatch h) d_E_signOf_19
    · rw [lg_cmp_le] at h11
      refine lv_iconst (v := nI 1) hx hb d_E_signOf_14 (by decide) ?_
      refine lv_goto (tgt := 19) hx hb d_E_signOf_15 rfl ?_
      exact W.iret hx hb hr (fun tS ht hW => ⟨_, rfl, (ec_sg1 h11), ht⟩) (fun _ h => nomatch h) d_E_signOf_19
  · rw [lg_cmp_eq] at h3
    refine lv_iconst (v := nI 0) hx hb d_E_signOf_6 (by decide) ?_
    exact W.iret hx hb hr (fun tS ht hW => ⟨_, rfl, (ec_sg0 h3), ht⟩) (fun _ h => nomatch h) d_E_signOf_7

set_option maxRecDepth 100000 in
set_option maxHeartbeats 4000000 in
theorem c_E_upper (l : Launch) (z : Int64) : Met l y_E_upper (Cond.code y_E_upper b_E_upper 2 (some .long) :: ec_tbl) ({ frames := 0, cells := 0, slots := 0, locals := 0 }) (va_Pc [.long z] (fun _ => True)) (vp_Sl (fun r : Int64 => r.toInt = z.toInt / 4194304)) 0 0 (fun _ => False) := by
  refine Met.ofW (cc := b_E_upper) (maxL := 2) (ret := (some .long)) (by decide) rfl ?_
  intro p e s m args below meth c s₁ B hml hv0
  obtain ⟨rfl, -⟩ := hv0
  have hx := B.exec
  have hb := B.bytes
  have hr := B.returns
  have hts := atoms_spec (ws := (Cond.code y_E_upper b_E_upper 2 (some .long) :: ec_tbl)) B.pre
  have htb : ∀ w ∈ ec_tbl, w.before _ s = true := fun w h => hts w (List.mem_cons_of_mem _ h)
  clear hts
  have hown : s.vm.findClass "ExactMesh$Exact" = some m.cls := findClass_of_methodNamed B.named
  have hlocks := B.notSynchronized
  have hl := lv_entry ([.long z]) (n := 2) (Nat.le_of_ble_eq_true rfl)
  rw [lg_entry_eq]
  generalize (lg_sl ([.long z]) ++ List.replicate (2 - (lg_sl ([.long z])).length) Slot.unset).toArray = ls at hl ⊢
  replace hl : lv_has ls 2 [(0, .long z)] := hl
  refine lv_lload_n hx hb d_E_upper_0 rfl (lv_at hl 0 rfl) ?_
  refine lv_bipush (v := nI 22) hx hb d_E_upper_1 (by decide) ?_
  refine lv_lshr hx hb d_E_upper_3 rfl ?_
  exact W.lret hx hb hr (fun tS ht hW => ⟨_, rfl, (Jvm.Kit.i64_shr z _ (k := 22) (by decide)), ht⟩) (fun _ h => nomatch h) d_E_upper_4

set_option maxRecDepth 100000 in
set_option maxHeartbeats 4000000 in
theorem c_E_lower (l : Launch) (z : Int64) : Met l y_E_lower (Cond.code y_E_lower b_E_lower 2 (some .long) :: ec_tbl) ({ frames := 0, cells := 0, slots := 0, locals := 0 }) (va_Pc [.long z] (fun _ => True)) (vp_Sl (fun r : Int64 => r.toInt = z.toInt % 4194304)) 0 0 (fun _ => False) := by
  refine Met.ofW (cc := b_E_lower) (maxL := 2) (ret := (some .long)) (by decide) rfl ?_
  intro p e s m args below meth c s₁ B hml hv0
  obtain ⟨rfl, -⟩ := hv0
  have hx := B.exec
  have hb := B.bytes
  have hr := B.returns
  have hts := atoms_spec (ws := (Cond.code y_E_lower b_E_lower 2 (some .long) :: ec_tbl)) B.pre
  have htb : ∀ w ∈ ec_tbl, w.before _ s = true := fun w h => hts w (List.mem_cons_of_mem _ h)
  clear hts
  have hown : s.vm.findClass "ExactMesh$Exact" = some m.cls := findClass_of_methodNamed B.named
  have hlocks := B.notSynchronized
  have hl := lv_entry ([.long z]) (n := 2) (Nat.le_of_ble_eq_true rfl)
  rw [lg_entry_eq]
  generalize (lg_sl ([.long z]) ++ List.replicate (2 - (lg_sl ([.long z])).length) Slot.unset).toArray = ls at hl ⊢
  replace hl : lv_has ls 2 [(0, .long z)] := hl
  refine lv_lload_n hx hb d_E_lower_0 rfl (lv_at hl 0 rfl) ?_
  refine lv_ldc2 hx hb hown (htb _ wd_240) d_E_lower_1 ?_
  refine lv_land hx hb d_E_lower_4 ?_
  exact W.lret hx hb hr (fun tS ht hW => ⟨_, rfl, (Jvm.Kit.i64_mask z 4194303 (k := 22) (by decide) (by decide)), ht⟩) (fun _ h => nomatch h) d_E_lower_5

set_option maxRecDepth 100000 in
set_option maxHeartbeats 4000000 in
theorem c_E_mixed (l : Launch) (z : Int64) (w : Int64) (hz : -8796093022208 ≤ z.toInt ∧ z.toInt ≤ 8796093022208) (hw : -8796093022208 ≤ w.toInt ∧ w.toInt ≤ 8796093022208) : Met l y_E_mixed (Cond.code y_E_mixed b_E_mixed 4 (some .long) :: ec_tbl) ({ frames := 0, cells := 0, slots := 0, locals := 0 }) (va_Pc [.long z, .long w] (fun _ => True)) (vp_Sl (fun r : Int64 => r.toInt = z.toInt / 4194304 * (w.toInt % 4194304) + z.toInt % 4194304 * (w.toInt / 4194304))) 0 0 (fun _ => False) := by
  refine Met.ofW (cc := b_E_mixed) (maxL := 4) (ret := (some .long)) (by decide) rfl ?_
  intro p e s m args below meth c s₁ B hml hv0
  obtain ⟨rfl, -⟩ := hv0
  have hx := B.exec
  have hb := B.bytes
  have hr := B.returns
  have hts := atoms_spec (ws := (Cond.code y_E_mixed b_E_mixed 4 (some .long) :: ec_tbl)) B.pre
  have htb : ∀ w ∈ ec_tbl, w.before _ s = true := fun w h => hts w (List.mem_cons_of_mem _ h)
  clear hts
  have hown : s.vm.findClass "ExactMesh$Exact" = some m.cls := findClass_of_methodNamed B.named
  have hlocks := B.notSynchronized
  have hl := lv_entry ([.long z, .long w]) (n := 4) (Nat.le_of_ble_eq_true rfl)
  rw [lg_entry_eq]
  generalize (lg_sl ([.long z, .long w]) ++ List.replicate (4 - (lg_sl ([.long z, .long w])).length) Slot.unset).toArray = ls at hl ⊢
  replace hl : lv_has ls 4 [(0, .long z), (2, .long w)] := hl
  refine lv_lload_n hx hb d_E_mixed_0 rfl (lv_at hl 0 rfl) ?_
  refine lv_bipush (v := nI 22) hx hb d_E_mixed_1 (by decide) ?_
  refine lv_lshr hx hb d_E_mixed_3 rfl ?_
  refine lv_lload_n hx hb d_E_mixed_4 rfl (lv_at hl 1 rfl) ?_
  refine lv_ldc2 hx hb hown (htb _ wd_240) d_E_mixed_5 ?_
  refine lv_land hx hb d_E_mixed_8 ?_
  refine lv_lmul hx hb d_E_mixed_9 ?_
  refine lv_lload_n hx hb d_E_mixed_10 rfl (lv_at hl 0 rfl) ?_
  refine lv_ldc2 hx hb hown (htb _ wd_240) d_E_mixed_11 ?_
  refine lv_land hx hb d_E_mixed_14 ?_
  refine lv_lload_n hx hb d_E_mixed_15 rfl (lv_at hl 1 rfl) ?_
  refine lv_bipush (v := nI 22) hx hb d_E_mixed_16 (by decide) ?_
  refine lv_lshr hx hb d_E_mixed_18 rfl ?_
  refine lv_lmul hx hb d_E_mixed_19 ?_
  refine lv_ladd hx hb d_E_mixed_20 ?_
  exact W.lret hx hb hr (fun tS ht hW => ⟨_, rfl, (ec_mixed hz hw), ht⟩) (fun _ h => nomatch h) d_E_mixed_21

set_option maxRecDepth 100000 in
set_option maxHeartbeats 4000000 in
theorem c_E_signOfProducts (l : Launch) (z1 : Int64) (z2 : Int64) (z3 : Int64) (z4 : Int64) (z5 : Int64) (z6 : Int64) (hz1 : -8796093022208 ≤ z1.toInt ∧ z1.toInt ≤ 8796093022208) (hz2 : -8796093022208 ≤ z2.toInt ∧ z2.toInt ≤ 8796093022208) (hz3 : -8796093022208 ≤ z3.toInt ∧ z3.toInt ≤ 8796093022208) (hz4 : -8796093022208 ≤ z4.toInt ∧ z4.toInt ≤ 8796093022208) (hz5 : -8796093022208 ≤ z5.toInt ∧ z5.toInt ≤ 8796093022208) (hz6 : -8796093022208 ≤ z6.toInt ∧ z6.toInt ≤ 8796093022208) : Met l y_E_signOfProducts (Cond.code y_E_signOfProducts b_E_signOfProducts 18 (some .int) :: ec_tbl) ({ frames := 1, cells := 0, slots := 0, locals := 23 }) (va_Pc [.long z1, .long z2, .long z3, .long z4, .long z5, .long z6] (fun _ => True)) (vp_Si (fun r : Int32 => r = ec_sgn (z1.toInt * z2.toInt + z3.toInt * z4.toInt + z5.toInt * z6.toInt))) 0 0 (fun _ => False) := by
  refine Met.ofW (cc := b_E_signOfProducts) (maxL := 18) (ret := (some .int)) (by decide) rfl ?_
  intro p e s m args below meth c s₁ B hml hv0
  obtain ⟨rfl, -⟩ := hv0
  have hx := B.exec
  have hb := B.bytes
  have hr := B.returns
  have hts := atoms_spec (ws := (Cond.code y_E_signOfProducts b_E_signOfProducts 18 (some .int) :: ec_tbl)) B.pre
  have htb : ∀ w ∈ ec_tbl, w.before _ s = true := fun w h => hts w (List.mem_cons_of_mem _ h)
  clear hts
  have hown : s.vm.findClass "ExactMesh$Exact" = some m.cls := findClass_of_methodNamed B.named
  have hlocks := B.notSynchronized
  have hl := lv_entry ([.long z1, .long z2, .long z3, .long z4, .long z5, .long z6]) (n := 18) (Nat.le_of_ble_eq_true rfl)
  rw [lg_entry_eq]
  generalize (lg_sl ([.long z1, .long z2, .long z3, .long z4, .long z5, .long z6]) ++ List.replicate (18 - (lg_sl ([.long z1, .long z2, .long z3, .long z4, .long z5, .long z6])).length) Slot.unset).toArray = ls at hl ⊢
  replace hl : lv_has ls 18 [(0, .long z1), (2, .long z2), (4, .long z3), (6, .long z4), (8, .long z5), (10, .long z6)] := hl
  refine lv_lload_n hx hb d_E_signOfProducts_0 rfl (lv_at hl 0 rfl) ?_
  refine ec_sTSl (As := [.long z1]) (rest := []) ⟨hx, hb, hml, hown, htb⟩ (c_E_upper l z1) ks_E_upper wd_234 ⟨Nat.le_of_ble_eq_true rfl, Nat.le_of_ble_eq_true rfl⟩ ⟨rfl, rfl⟩ rfl hl.1 rfl (Nat.le_of_ble_eq_true rfl) d_E_signOfProducts_1 ⟨Nat.zero_le _, Nat.zero_le _⟩ (fun r1 hr1 => ?_)
  replace hr1 : r1.toInt = z1.toInt / 4194304 := hr1
  refine lv_lload_n hx hb d_E_signOfProducts_4 rfl (lv_at hl 1 rfl) ?_
  refine ec_sTSl (As := [.long z2]) (rest := [.long r1]) ⟨hx, hb, hml, hown, htb⟩ (c_E_upper l z2) ks_E_upper wd_234 ⟨Nat.le_of_ble_eq_true rfl, Nat.le_of_ble_eq_true rfl⟩ ⟨rfl, rfl⟩ rfl hl.1 rfl (Nat.le_of_ble_eq_true rfl) d_E_signOfProducts_5 ⟨Nat.zero_le _, Nat.zero_le _⟩ (fun r5 hr5 => ?_)
  replace hr5 : r5.toInt = z2.toInt / 4194304 := hr5
  refine lv_lmul hx hb d_E_signOfProducts_8 ?_
  refine lv_lload hx hb d_E_signOfProducts_9 (lv_at hl 2 rfl) ?_
  refine ec_sTSl (As := [.long z3]) (rest := [.long (r1 * r5)]) ⟨hx, hb, hml, hown, htb⟩ (c_E_upper l z3) ks_E_upper wd_234 ⟨Nat.le_of_ble_eq_true rfl, Nat.le_of_ble_eq_true rfl⟩ ⟨rfl, rfl⟩ rfl hl.1 rfl (Nat.le_of_ble_eq_true rfl) d_E_signOfProducts_11 ⟨Nat.zero_le _, Nat.zero_le _⟩ (fun r11 hr11 => ?_)
  replace hr11 : r11.toInt = z3.toInt / 4194304 := hr11
  refine lv_lload hx hb d_E_signOfProducts_14 (lv_at hl 3 rfl) ?_
  refine ec_sTSl (As := [.long z4]) (rest := [.long r11, .long (r1 * r5)]) ⟨hx, hb, hml, hown, htb⟩ (c_E_upper l z4) ks_E_upper wd_234 ⟨Nat.le_of_ble_eq_true rfl, Nat.le_of_ble_eq_true rfl⟩ ⟨rfl, rfl⟩ rfl hl.1 rfl (Nat.le_of_ble_eq_true rfl) d_E_signOfProducts_16 ⟨Nat.zero_le _, Nat.zero_le _⟩ (fun r16 hr16 => ?_)
  replace hr16 : r16.toInt = z4.toInt / 4194304 := hr16
  refine lv_lmul hx hb d_E_signOfProducts_19 ?_
  refine lv_ladd hx hb d_E_signOfProducts_20 ?_
  refine lv_lload hx hb d_E_signOfProducts_21 (lv_at hl 4 rfl) ?_
  refine ec_sTSl (As := [.long z5]) (rest := [.long ((r1 * r5) + (r11 * r16))]) ⟨hx, hb, hml, hown, htb⟩ (c_E_upper l z5) ks_E_upper wd_234 ⟨Nat.le_of_ble_eq_true rfl, Nat.le_of_ble_eq_true rfl⟩ ⟨rfl, rfl⟩ rfl hl.1 rfl (Nat.le_of_ble_eq_true rfl) d_E_signOfProducts_23 ⟨Nat.zero_le _, Nat.zero_le _⟩ (fun r23 hr23 => ?_)
  replace hr23 : r23.toInt = z5.toInt / 4194304 := hr23
  refine lv_lload hx hb d_E_signOfProducts_26 (lv_at hl 5 rfl) ?_
  refine ec_sTSl (As := [.long z6]) (rest := [.long r23, .long ((r1 * r5) + (r11 * r16))]) ⟨hx, hb, hml, hown, htb⟩ (c_E_upper l z6) ks_E_upper wd_234 ⟨Nat.le_of_ble_eq_true rfl, Nat.le_of_ble_eq_true rfl⟩ ⟨rfl, rfl⟩ rfl hl.1 rfl (Nat.le_of_ble_eq_true rfl) d_E_signOfProducts_28 ⟨Nat.zero_le _, Nat.zero_le _⟩ (fun r28 hr28 => ?_)
  replace hr28 : r28.toInt = z6.toInt / 4194304 := hr28
  refine lv_lmul hx hb d_E_signOfProducts_31 ?_
  refine lv_ladd hx hb d_E_signOfProducts_32 ?_
  refine lv_topl (fun v1 e_v1 => ?_)
  refine lv_lstore hx hb d_E_signOfProducts_33 hl (by decide) rfl (fun ls hl => ?_)
  replace hl : lv_has ls 18 [(12, .long v1), (0, .long z1), (2, .long z2), (4, .long z3), (6, .long z4), (8, .long z5), (10, .long z6)] := hl
  refine lv_lload_n hx hb d_E_signOfProducts_35 rfl (lv_at hl 1 rfl) ?_
  refine lv_lload_n hx hb d_E_signOfProducts_36 rfl (lv_at hl 2 rfl) ?_
  refine ec_sTSl (As := [.long z1, .long z2]) (rest := []) ⟨hx, hb, hml, hown, htb⟩ (c_E_mixed l z1 z2 hz1 hz2) ks_E_mixed wd_237 ⟨Nat.le_of_ble_eq_true rfl, Nat.le_of_ble_eq_true rfl⟩ ⟨rfl, rfl⟩ rfl hl.1 rfl (Nat.le_of_ble_eq_true rfl) d_E_signOfProducts_37 ⟨Nat.zero_le _, Nat.zero_le _⟩ (fun r37 hr37 => ?_)
  replace hr37 : r37.toInt = z1.toInt / 4194304 * (z2.toInt % 4194304) + z1.toInt % 4194304 * (z2.toInt / 4194304) := hr37
  refine lv_lload hx hb d_E_signOfProducts_40 (lv_at hl 3 rfl) ?_
  refine lv_lload hx hb d_E_signOfProducts_42 (lv_at hl 4 rfl) ?_
  refine ec_sTSl (As := [.long z3, .long z4]) (rest := [.long r37]) ⟨hx, hb, hml, hown, htb⟩ (c_E_mixed l z3 z4 hz3 hz4) ks_E_mixed wd_237 ⟨Nat.le_of_ble_eq_true rfl, Nat.le_of_ble_eq_true rfl⟩ ⟨rfl, rfl⟩ rfl hl.1 rfl (Nat.le_of_ble_eq_true rfl) d_E_signOfProducts_44 ⟨Nat.zero_le _, Nat.zero_le _⟩ (fun r44 hr44 => ?_)
  replace hr44 : r44.toInt = z3.toInt / 4194304 * (z4.toInt % 4194304) + z3.toInt % 4194304 * (z4.toInt / 4194304) := hr44
  refine lv_ladd hx hb d_E_signOfProducts_47 ?_
  refine lv_lload hx hb d_E_signOfProducts_48 (lv_at hl 5 rfl) ?_
  refine lv_lload hx hb d_E_signOfProducts_50 (lv_at hl 6 rfl) ?_
  refine ec_sTSl (As := [.long z5, .long z6]) (rest := [.long (r37 + r44)]) ⟨hx, hb, hml, hown, htb⟩ (c_E_mixed l z5 z6 hz5 hz6) ks_E_mixed wd_237 ⟨Nat.le_of_ble_eq_true rfl, Nat.le_of_ble_eq_true rfl⟩ ⟨rfl, rfl⟩ rfl hl.1 rfl (Nat.le_of_ble_eq_true rfl) d_E_signOfProducts_52 ⟨Nat.zero_le _, Nat.zero_le _⟩ (fun r52 hr52 => ?_)
  replace hr52 : r52.toInt = z5.toInt / 4194304 * (z6.toInt % 4194304) + z5.toInt % 4194304 * (z6.toInt / 4194304) := hr52
  refine lv_ladd hx hb d_E_signOfProducts_55 ?_
  refine lv_topl (fun v2 e_v2 => ?_)
  refine lv_lstore hx hb d_E_signOfProducts_56 hl (by decide) rfl (fun ls hl => ?_)
  replace hl : lv_has ls 18 [(14, .long v2), (12, .long v1), (0, .long z1), (2, .long z2), (4, .long z3), (6, .long z4), (8, .long z5), (10, .long z6)] := hl
  refine lv_lload_n hx hb d_E_signOfProducts_58 rfl (lv_at hl 2 rfl) ?_
  refine ec_sTSl (As := [.long z1]) (rest := []) ⟨hx, hb, hml, hown, htb⟩ (c_E_lower l z1) ks_E_lower wd_241 ⟨Nat.le_of_ble_eq_true rfl, Nat.le_of_ble_eq_true rfl⟩ ⟨rfl, rfl⟩ rfl hl.1 rfl (Nat.le_of_ble_eq_true rfl) d_E_signOfProducts_59 ⟨Nat.zero_le _, Nat.zero_le _⟩ (fun r59 hr59 => ?_)
  replace hr59 : r59.toInt = z1.toInt % 4194304 := hr59
  refine lv_lload_n hx hb d_E_signOfProducts_62 rfl (lv_at hl 3 rfl) ?_
  refine ec_sTSl (As := [.long z2]) (rest := [.long r59]) ⟨hx, hb, hml, hown, htb⟩ (c_E_lower l z2) ks_E_lower wd_241 ⟨Nat.le_of_ble_eq_true rfl, Nat.le_of_ble_eq_true rfl⟩ ⟨rfl, rfl⟩ rfl hl.1 rfl (Nat.le_of_ble_eq_true rfl) d_E_signOfProducts_63 ⟨Nat.zero_le _, Nat.zero_le _⟩ (fun r63 hr63 => ?_)
  replace hr63 : r63.toInt = z2.toInt % 4194304 := hr63
  refine lv_lmul hx hb d_E_signOfProducts_66 ?_
  refine lv_lload hx hb d_E_signOfProducts_67 (lv_at hl 4 rfl) ?_
  refine ec_sTSl (As := [.long z3]) (rest := [.long (r59 * r63)]) ⟨hx, hb, hml, hown, htb⟩ (c_E_lower l z3) ks_E_lower wd_241 ⟨Nat.le_of_ble_eq_true rfl, Nat.le_of_ble_eq_true rfl⟩ ⟨rfl, rfl⟩ rfl hl.1 rfl (Nat.le_of_ble_eq_true rfl) d_E_signOfProducts_69 ⟨Nat.zero_le _, Nat.zero_le _⟩ (fun r69 hr69 => ?_)
  replace hr69 : r69.toInt = z3.toInt % 4194304 := hr69
  refine lv_lload hx hb d_E_signOfProducts_72 (lv_at hl 5 rfl) ?_
  refine ec_sTSl (As := [.long z4]) (rest := [.long r69, .long (r59 * r63)]) ⟨hx, hb, hml, hown, htb⟩ (c_E_lower l z4) ks_E_lower wd_241 ⟨Nat.le_of_ble_eq_true rfl, Nat.le_of_ble_eq_true rfl⟩ ⟨rfl, rfl⟩ rfl hl.1 rfl (Nat.le_of_ble_eq_true rfl) d_E_signOfProducts_74 ⟨Nat.zero_le _, Nat.zero_le _⟩ (fun r74 hr74 => ?_)
  replace hr74 : r74.toInt = z4.toInt % 4194304 := hr74
  refine lv_lmul hx hb d_E_signOfProducts_77 ?_
  refine lv_ladd hx hb d_E_signOfProducts_78 ?_
  refine lv_lload hx hb d_E_signOfProducts_79 (lv_at hl 6 rfl) ?_
  refine ec_sTSl (As := [.long z5]) (rest := [.long ((r59 * r63) + (r69 * r74))]) ⟨hx, hb, hml, hown, htb⟩ (c_E_lower l z5) ks_E_lower wd_241 ⟨Nat.le_of_ble_eq_true rfl, Nat.le_of_ble_eq_true rfl⟩ ⟨rfl, rfl⟩ rfl hl.1 rfl (Nat.le_of_ble_eq_true rfl) d_E_signOfProducts_81 ⟨Nat.zero_le _, Nat.zero_le _⟩ (fun r81 hr81 => ?_)
  replace hr81 : r81.toInt = z5.toInt % 4194304 := hr81
  refine lv_lload hx hb d_E_signOfProducts_84 (lv_at hl 7 rfl) ?_
  refine ec_sTSl (As := [.long z6]) (rest := [.long r81, .long ((r59 * r63) + (r69 * r74))]) ⟨hx, hb, hml, hown, htb⟩ (c_E_lower l z6) ks_E_lower wd_241 ⟨Nat.le_of_ble_eq_true rfl, Nat.le_of_ble_eq_true rfl⟩ ⟨rfl, rfl⟩ rfl hl.1 rfl (Nat.le_of_ble_eq_true rfl) d_E_signOfProducts_86 ⟨Nat.zero_le _, Nat.zero_le _⟩ (fun r86 hr86 => ?_)
  replace hr86 : r86.toInt = z6.toInt % 4194304 := hr86
  refine lv_lmul hx hb d_E_signOfProducts_89 ?_
  refine lv_ladd hx hb d_E_signOfProducts_90 ?_
  refine lv_topl (fun v3 e_v3 => ?_)
  refine lv_lstore hx hb d_E_signOfProducts_91 hl (by decide) rfl (fun ls hl => ?_)
  replace hl : lv_has ls 18 [(16, .long v3), (14, .long v2), (12, .long v1), (0, .long z1), (2, .long z2), (4, .long z3), (6, .long z4), (8, .long z5), (10, .long z6)] := hl
  refine lv_lload hx hb d_E_signOfProducts_93 (lv_at hl 1 rfl) ?_
  refine lv_lload hx hb d_E_signOfProducts_95 (lv_at hl 0 rfl) ?_
  refine lv_bipush (v := nI 22) hx hb d_E_signOfProducts_97 (by decide) ?_
  refine lv_lshr hx hb d_E_signOfProducts_99 rfl ?_
  refine lv_ladd hx hb d_E_signOfProducts_100 ?_
  refine lv_topl (fun v4 e_v4 => ?_)
  refine lv_lstore hx hb d_E_signOfProducts_101 hl (by decide) rfl (fun ls hl => ?_)
  replace hl : lv_has ls 18 [(14, .long v4), (16, .long v3), (12, .long v1), (0, .long z1), (2, .long z2), (4, .long z3), (6, .long z4), (8, .long z5), (10, .long z6)] := hl
  refine lv_lload hx hb d_E_signOfProducts_103 (lv_at hl 2 rfl) ?_
  refine lv_lload hx hb d_E_signOfProducts_105 (lv_at hl 0 rfl) ?_
  refine lv_bipush (v := nI 22) hx hb d_E_signOfProducts_107 (by decide) ?_
  refine lv_lshr hx hb d_E_signOfProducts_109 rfl ?_
  refine lv_ladd hx hb d_E_signOfProducts_110 ?_
  refine lv_topl (fun v5 e_v5 => ?_)
  refine lv_lstore hx hb d_E_signOfProducts_111 hl (by decide) rfl (fun ls hl => ?_)
  replace hl : lv_has ls 18 [(12, .long v5), (14, .long v4), (16, .long v3), (0, .long z1), (2, .long z2), (4, .long z3), (6, .long z4), (8, .long z5), (10, .long z6)] := hl
  have LL := ec_limbs (high := v5) (mid := v4) (low := v3) hz1 hz2 hz3 hz4 hz5 hz6 hr1 hr5 hr11 hr16 hr23 hr28 hr59 hr63 hr69 hr74 hr81 hr86 hr37 hr44 hr52 e_v3 (by rw [e_v4, e_v2]) (by rw [e_v5, e_v1])
  refine lv_lload hx hb d_E_signOfProducts_113 (lv_at hl 0 rfl) ?_
  refine lv_lconst (v := 0) hx hb d_E_signOfProducts_115 (by decide) ?_
  refine W.lcmp hx hb d_E_signOfProducts_116 ?_
  refine lv_if_eq (tgt := 126) hx hb d_E_signOfProducts_117 rfl (fun h117 => ?_) (fun h117 => ?_)
  · rw [lg_cmp_eq] at h117
    refine lv_lload hx hb d_E_signOfProducts_126 (lv_at hl 1 rfl) ?_
    refine lv_lload hx hb d_E_signOfProducts_128 (lv_at hl 2 rfl) ?_
    refine lv_lor hx hb d_E_signOfProducts_130 ?_
    refine lv_ldc2 hx hb hown (htb _ wd_240) d_E_signOfProducts_131 ?_
    refine lv_land hx hb d_E_signOfProducts_134 ?_
    refine lv_lconst (v := 0) hx hb d_E_signOfProducts_135 (by decide) ?_
    refine W.lcmp hx hb d_E_signOfProducts_136 ?_
    refine lv_if_ne (tgt := 144) hx hb d_E_signOfProducts_137 rfl (fun h137 => ?_) (fun h137 => ?_)
    · rw [lg_cmp_eq] at h137
      refine lv_iconst (v := nI 1) hx hb d_E_signOfProducts_144 (by decide) ?_
      exact W.iret hx hb hr (fun tS ht hW => ⟨_, rfl, ((LL.2 h117).2 h137).symm, ht⟩) (fun _ h => nomatch h) d_E_signOfProducts_145
    · rw [lg_cmp_eq] at h137
      refine lv_iconst (v := nI 0) hx hb d_E_signOfProducts_140 (by decide) ?_
      refine lv_goto (tgt := 145) hx hb d_E_signOfProducts_141 rfl ?_
      exact W.iret hx hb hr (fun tS ht hW => ⟨_, rfl, ((LL.2 h117).1 h137).symm, ht⟩) (fun _ h => nomatch h) d_E_signOfProducts_145
  · rw [lg_cmp_eq] at h117
    refine lv_lload hx hb d_E_signOfProducts_120 (lv_at hl 0 rfl) ?_
    refine ec_sTSi (As := [.long v5]) (rest := []) ⟨hx, hb, hml, hown, htb⟩ (c_E_signOf l v5) ks_E_signOf wd_244 ⟨Nat.le_of_ble_eq_true rfl, Nat.le_of_ble_eq_true rfl⟩ ⟨rfl, rfl⟩ rfl hl.1 rfl (Nat.le_of_ble_eq_true rfl) d_E_signOfProducts_122 ⟨Nat.zero_le _, Nat.zero_le _⟩ (fun r122 hr122 => ?_)
    replace hr122 : r122 = ec_sgn v5.toInt := hr122
    subst hr122
    exact W.iret hx hb hr (fun tS ht hW => ⟨_, rfl, (LL.1 h117), ht⟩) (fun _ h => nomatch h) d_E_signOfProducts_125
