set_option maxRecDepth 100000 in
set_option maxHeartbeats 4000000 in
theorem c_P_has (l : Launch) (dC : Nat → ClassId) (dI : Nat → Nat → Nat) (a : Nat → Nat) (cI cZ cJ : ClassId) (pn : Nat) (px : Nat → Int32) (py : Nat → Int32) (ln : Nat) (lf : Nat → Nat) (lt : Nat → Nat) (lr : Nat → Nat) (sn : Nat) (sf : Nat → Nat) (st : Nat → Nat) (sr : Nat → Nat) (th : Nat → Option Nat) (hn : Nat) (qx : Nat → Int32) (qy : Nat → Int32) (mn : Nat) (mc : Nat → Nat) (mk : Nat → Prop) (mo : Nat → Option Nat) (mr : Nat → Nat) (rest : va_W) (v : Int32) (g12 : pn ≤ 12) : Met l y_P_has (Cond.code y_P_has b_P_has 2 (some .boolean) :: ec_tbl) ({ frames := 0, cells := 0, slots := 0, locals := 0 }) (va_Pc [.ref (a 2), .int v] (fun U => va_P (dC, dI) vwCl (wX a cI cZ cJ pn px py ln lf lt lr sn sf st sr th hn qx qy mn mc mk mo mr ++ rest) U.heap ∧ va_K (dC, dI) vwCl (ec_tys cI cZ cJ) U)) (vp_Si (fun r : Int32 => ec_isB r (0 ≤ v.toInt ∧ v.toInt < pn))) 0 0 (fun _ => False) := by
  refine Met.ofW (cc := b_P_has) (maxL := 2) (ret := (some .boolean)) (by decide) rfl ?_
  intro p e s m args below meth c s₁ B hml hv0
  obtain ⟨rfl, hP, hK⟩ := hv0
  have hx := B.exec
  have hb := B.bytes
  have hr := B.returns
  have hts := atoms_spec (ws := (Cond.code y_P_has b_P_has 2 (some .boolean) :: ec_tbl)) B.pre
  have htb : ∀ w ∈ ec_tbl, w.before _ s = true := fun w h => hts w (List.mem_cons_of_mem _ h)
  clear hts
  have hown : s.vm.findClass "ExactMesh$Points" = some m.cls := findClass_of_methodNamed B.named
  have hlocks := B.notSynchronized
  have hl := lv_entry ([.ref (a 2), .int v]) (n := 2) (Nat.le_of_ble_eq_true rfl)
  rw [lg_entry_eq]
  generalize (lg_sl ([.ref (a 2), .int v]) ++ List.replicate (2 - (lg_sl ([.ref (a 2), .int v])).length) Slot.unset).toArray = ls at hl ⊢
  replace hl : lv_has ls 2 [(0, .ref (a 2)), (1, .int v)] := hl
  refine lv_iload_n hx hb d_P_has_0 rfl (lv_at hl 1 rfl) ?_
  refine lv_if_lt (tgt := 16) hx hb d_P_has_1 rfl (fun h1 => ?_) (fun h1 => ?_)
  · refine lv_iconst (v := nI 0) hx hb d_P_has_16 (by decide) ?_
    exact W.zret hx hb hr rfl (fun tS ht hW => ⟨_, rfl, (ec_has0 h1), ht⟩) (fun _ h => nomatch h) d_P_has_17
  · refine lv_iload_n hx hb d_P_has_4 rfl (lv_at hl 1 rfl) ?_
    refine lv_aload_n hx hb d_P_has_5 rfl (lv_at hl 0 rfl) ?_
    refine va_get (D := (dC, dI)) (ci := 0) (v := .int (nI pn)) (C := R_P) (T := T_P) (N := 3) hx hb htb in_P hown hK hP 2 rfl rfl 2 (by decide) (htb _ wd_37) (fun _ h9 => h9) rfl d_P_has_6 ?_
    refine lv_icmp_ge (tgt := 16) hx hb d_P_has_9 rfl (fun h9 => ?_) (fun h9 => ?_)
    · refine lv_iconst (v := nI 0) hx hb d_P_has_16 (by decide) ?_
      exact W.zret hx hb hr rfl (fun tS ht hW => ⟨_, rfl, (ec_has1 (by omega) h9), ht⟩) (fun _ h => nomatch h) d_P_has_17
    · refine lv_iconst (v := nI 1) hx hb d_P_has_12 (by decide) ?_
      refine lv_goto (tgt := 17) hx hb d_P_has_13 rfl ?_
      exact W.zret hx hb hr rfl (fun tS ht hW => ⟨_, rfl, (ec_has2 (by omega) h1 h9), ht⟩) (fun _ h => nomatch h) d_P_has_17

set_option maxRecDepth 100000 in
set_option maxHeartbeats 4000000 in
theorem c_P_isFull (l : Launch) (dC : Nat → ClassId) (dI : Nat → Nat → Nat) (a : Nat → Nat) (cI cZ cJ : ClassId) (pn : Nat) (px : Nat → Int32) (py : Nat → Int32) (ln : Nat) (lf : Nat → Nat) (lt : Nat → Nat) (lr : Nat → Nat) (sn : Nat) (sf : Nat → Nat) (st : Nat → Nat) (sr : Nat → Nat) (th : Nat → Option Nat) (hn : Nat) (qx : Nat → Int32) (qy : Nat → Int32) (mn : Nat) (mc : Nat → Nat) (mk : Nat → Prop) (mo : Nat → Option Nat) (mr : Nat → Nat) (rest : va_W) (g12 : pn ≤ 12) : Met l y_P_isFull (Cond.code y_P_isFull b_P_isFull 1 (some .boolean) :: ec_tbl) ({ frames := 0, cells := 0, slots := 0, locals := 0 }) (va_Pc [.ref (a 2)] (fun U => va_P (dC, dI) vwCl (wX a cI cZ cJ pn px py ln lf lt lr sn sf st sr th hn qx qy mn mc mk mo mr ++ rest) U.heap ∧ va_K (dC, dI) vwCl (ec_tys cI cZ cJ) U)) (vp_Si (fun r : Int32 => ec_isB r (12 ≤ pn))) 0 0 (fun _ => False) := by
  refine Met.ofW (cc := b_P_isFull) (maxL := 1) (ret := (some .boolean)) (by decide) rfl ?_
  intro p e s m args below meth c s₁ B hml hv0
  obtain ⟨rfl, hP, hK⟩ := hv0
  have hx := B.exec
  have hb := B.bytes
  have hr := B.returns
  have hts := atoms_spec (ws := (Cond.code y_P_isFull b_P_isFull 1 (some .boolean) :: ec_tbl)) B.pre
  have htb : ∀ w ∈ ec_tbl, w.before _ s = true := fun w h => hts w (List.mem_cons_of_mem _ h)
  clear hts
  have hown : s.vm.findClass "ExactMesh$Points" = some m.cls := findClass_of_methodNamed B.named
  have hlocks := B.notSynchronized
  have hl := lv_entry ([.ref (a 2)]) (n := 1) (Nat.le_of_ble_eq_true rfl)
  rw [lg_entry_eq]
  generalize (lg_sl ([.ref (a 2)]) ++ List.replicate (1 - (lg_sl ([.ref (a 2)])).length) Slot.unset).toArray = ls at hl ⊢
  replace hl : lv_has ls 1 [(0, .ref (a 2))] := hl
  refine lv_aload_n hx hb d_P_isFull_0 rfl (lv_at hl 0 rfl) ?_
  refine va_get (D := (dC, dI)) (ci := 0) (v := .int (nI pn)) (C := R_P) (T := T_P) (N := 3) hx hb htb in_P hown hK hP 2 rfl rfl 2 (by decide) (htb _ wd_37) (fun _ h9 => h9) rfl d_P_isFull_1 ?_
  refine lv_aload_n hx hb d_P_isFull_4 rfl (lv_at hl 0 rfl) ?_
  refine va_get (D := (dC, dI)) (ci := 0) (v := .ref (a 3)) (C := R_P) (T := T_P) (N := 3) hx hb htb in_P hown hK hP 2 rfl rfl 0 (by decide) (htb _ wd_31) (fun _ h9 => h9) rfl d_P_isFull_5 ?_
  refine va_alen (v := nI 12) hx hb hK hP 3 0 rfl rfl rfl d_P_isFull_8 ?_
  refine ec_icmp_lt (tgt := 16) hx hb d_P_isFull_9 rfl (by omega) (by omega) (fun h9 => ?_) (fun h9 => ?_)
  · refine lv_iconst (v := nI 0) hx hb d_P_isFull_16 (by decide) ?_
    exact W.zret hx hb hr rfl (fun tS ht hW => ⟨_, rfl, (ec_isB.f0 (by omega)), ht⟩) (fun _ h => nomatch h) d_P_isFull_17
  · refine lv_iconst (v := nI 1) hx hb d_P_isFull_12 (by decide) ?_
    refine lv_goto (tgt := 17) hx hb d_P_isFull_13 rfl ?_
    exact W.zret hx hb hr rfl (fun tS ht hW => ⟨_, rfl, (ec_isB.t1 (by omega)), ht⟩) (fun _ h => nomatch h) d_P_isFull_17

set_option maxRecDepth 100000 in
set_option maxHeartbeats 4000000 in
theorem c_H_isFull (l : Launch) (dC : Nat → ClassId) (dI : Nat → Nat → Nat) (a : Nat → Nat) (cI cZ cJ : ClassId) (pn : Nat) (px : Nat → Int32) (py : Nat → Int32) (ln : Nat) (lf : Nat → Nat) (lt : Nat → Nat) (lr : Nat → Nat) (sn : Nat) (sf : Nat → Nat) (st : Nat → Nat) (sr : Nat → Nat) (th : Nat → Option Nat) (hn : Nat) (qx : Nat → Int32) (qy : Nat → Int32) (mn : Nat) (mc : Nat → Nat) (mk : Nat → Prop) (mo : Nat → Option Nat) (mr : Nat → Nat) (rest : va_W) (g3 : hn ≤ 3) : Met l y_P_isFull (Cond.code y_P_isFull b_P_isFull 1 (some .boolean) :: ec_tbl) ({ frames := 0, cells := 0, slots := 0, locals := 0 }) (va_Pc [.ref (a 14)] (fun U => va_P (dC, dI) vwCl (wX a cI cZ cJ pn px py ln lf lt lr sn sf st sr th hn qx qy mn mc mk mo mr ++ rest) U.heap ∧ va_K (dC, dI) vwCl (ec_tys cI cZ cJ) U)) (vp_Si (fun r : Int32 => ec_isB r (3 ≤ hn))) 0 0 (fun _ => False) := by
  refine Met.ofW (cc := b_P_isFull) (maxL := 1) (ret := (some .boolean)) (by decide) rfl ?_
  intro p e s m args below meth c s₁ B hml hv0
  obtain ⟨rfl, hP, hK⟩ := hv0
  have hx := B.exec
  have hb := B.bytes
  have hr := B.returns
  have hts := atoms_spec (ws := (Cond.code y_P_isFull b_P_isFull 1 (some .boolean) :: ec_tbl)) B.pre
  have htb : ∀ w ∈ ec_tbl, w.before _ s = true := fun w h => hts w (List.mem_cons_of_mem _ h)
  clear hts
  have hown : s.vm.findClass "ExactMesh$Points" = some m.cls := findClass_of_methodNamed B.named
  have hlocks := B.notSynchronized
  have hl := lv_entry ([.ref (a 14)]) (n := 1) (Nat.le_of_ble_eq_true rfl)
  rw [lg_entry_eq]
  generalize (lg_sl ([.ref (a 14)]) ++ List.replicate (1 - (lg_sl ([.ref (a 14)])).length) Slot.unset).toArray = ls at hl ⊢
  replace hl : lv_has ls 1 [(0, .ref (a 14))] := hl
  refine lv_aload_n hx hb d_P_isFull_0 rfl (lv_at hl 0 rfl) ?_
  refine va_get (D := (dC, dI)) (ci := 0) (v := .int (nI hn)) (C := R_P) (T := T_P) (N := 3) hx hb htb in_P hown hK hP 14 rfl rfl 2 (by decide) (htb _ wd_37) (fun _ h9 => h9) rfl d_P_isFull_1 ?_
  refine lv_aload_n hx hb d_P_isFull_4 rfl (lv_at hl 0 rfl) ?_
  refine va_get (D := (dC, dI)) (ci := 0) (v := .ref (a 15)) (C := R_P) (T := T_P) (N := 3) hx hb htb in_P hown hK hP 14 rfl rfl 0 (by decide) (htb _ wd_31) (fun _ h9 => h9) rfl d_P_isFull_5 ?_
  refine va_alen (v := nI 3) hx hb hK hP 15 0 rfl rfl rfl d_P_isFull_8 ?_
  refine ec_icmp_lt (tgt := 16) hx hb d_P_isFull_9 rfl (by omega) (by omega) (fun h9 => ?_) (fun h9 => ?_)
  · refine lv_iconst (v := nI 0) hx hb d_P_isFull_16 (by decide) ?_
    exact W.zret hx hb hr rfl (fun tS ht hW => ⟨_, rfl, (ec_isB.f0 (by omega)), ht⟩) (fun _ h => nomatch h) d_P_isFull_17
  · refine lv_iconst (v := nI 1) hx hb d_P_isFull_12 (by decide) ?_
    refine lv_goto (tgt := 17) hx hb d_P_isFull_13 rfl ?_
    exact W.zret hx hb hr rfl (fun tS ht hW => ⟨_, rfl, (ec_isB.t1 (by omega)), ht⟩) (fun _ h => nomatch h) d_P_isFull_17

set_option maxRecDepth 100000 in
set_option maxHeartbeats 4000000 in
theorem c_P_leftness (l : Launch) (dC : Nat → ClassId) (dI : Nat → Nat → Nat) (a : Nat → Nat) (cI cZ cJ : ClassId) (pn : Nat) (px : Nat → Int32) (py : Nat → Int32) (ln : Nat) (lf : Nat → Nat) (lt : Nat → Nat) (lr : Nat → Nat) (sn : Nat) (sf : Nat → Nat) (st : Nat → Nat) (sr : Nat → Nat) (th : Nat → Option Nat) (hn : Nat) (qx : Nat → Int32) (qy : Nat → Int32) (mn : Nat) (mc : Nat → Nat) (mk : Nat → Prop) (mo : Nat → Option Nat) (mr : Nat → Nat) (rest : va_W) (i : Nat) (j : Nat) (vx : Int32) (vy : Int32) (g12 : pn ≤ 12) (gN : ∀ i, i < pn → ec_near (px i) ∧ ec_near (py i)) (hi : i < pn) (hj : j < pn) : Met l y_P_leftness (Cond.code y_P_leftness b_P_leftness 9 (some .long) :: ec_tbl) ({ frames := 0, cells := 0, slots := 0, locals := 0 }) (va_Pc [.ref (a 2), .int (nI i), .int (nI j), .int vx, .int vy] (fun U => va_P (dC, dI) vwCl (wX a cI cZ cJ pn px py ln lf lt lr sn sf st sr th hn qx qy mn mc mk mo mr ++ rest) U.heap ∧ va_K (dC, dI) vwCl (ec_tys cI cZ cJ) U)) (vp_Sl (fun r : Int64 => r.toInt = ec_lf (px i).toInt (py i).toInt (px j).toInt (py j).toInt vx.toInt vy.toInt)) 0 0 (fun _ => False) := by
  refine Met.ofW (cc := b_P_leftness) (maxL := 9) (ret := (some .long)) (by decide) rfl ?_
  intro p e s m args below meth c s₁ B hml hv0
  obtain ⟨rfl, hP, hK⟩ := hv0
  have hx := B.exec
  have hb := B.bytes
  have hr := B.returns
  have hts := atoms_spec (ws := (Cond.code y_P_leftness b_P_leftness 9 (some .long) :: ec_tbl)) B.pre
  have htb : ∀ w ∈ ec_tbl, w.before _ s = true := fun w h => hts w (List.mem_cons_of_mem _ h)
  clear hts
  have hown : s.vm.findClass "ExactMesh$Points" = some m.cls := findClass_of_methodNamed B.named
  have hlocks := B.notSynchronized
  have hl := lv_entry ([.ref (a 2), .int (nI i), .int (nI j), .int vx, .int vy]) (n := 9) (Nat.le_of_ble_eq_true rfl)
  rw [lg_entry_eq]
  generalize (lg_sl ([.ref (a 2), .int (nI i), .int (nI j), .int vx, .int vy]) ++ List.replicate (9 - (lg_sl ([.ref (a 2), .int (nI i), .int (nI j), .int vx, .int vy])).length) Slot.unset).toArray = ls at hl ⊢
  replace hl : lv_has ls 9 [(0, .ref (a 2)), (1, .int (nI i)), (2, .int (nI j)), (3, .int vx), (4, .int vy)] := hl
  refine lv_aload_n hx hb d_P_leftness_0 rfl (lv_at hl 0 rfl) ?_
  refine va_get (D := (dC, dI)) (ci := 0) (v := .ref (a 3)) (C := R_P) (T := T_P) (N := 3) hx hb htb in_P hown hK hP 2 rfl rfl 0 (by decide) (htb _ wd_31) (fun _ h9 => h9) rfl d_P_leftness_1 ?_
  refine lv_iload_n hx hb d_P_leftness_4 rfl (lv_at hl 2 rfl) ?_
  refine ec_iald (f := px) (i := j) hx hb hK hP 3 0 rfl rfl (by omega) (by decide) d_P_leftness_5 ?_
  refine lv_i2l hx hb d_P_leftness_6 rfl ?_
  refine lv_aload_n hx hb d_P_leftness_7 rfl (lv_at hl 0 rfl) ?_
  refine va_get (D := (dC, dI)) (ci := 0) (v := .ref (a 3)) (C := R_P) (T := T_P) (N := 3) hx hb htb in_P hown hK hP 2 rfl rfl 0 (by decide) (htb _ wd_31) (fun _ h9 => h9) rfl d_P_leftness_8 ?_
  refine lv_iload_n hx hb d_P_leftness_11 rfl (lv_at hl 1 rfl) ?_
  refine ec_iald (f := px) (i := i) hx hb hK hP 3 0 rfl rfl (by omega) (by decide) d_P_leftness_12 ?_
  refine lv_i2l hx hb d_P_leftness_13 rfl ?_
  refine lv_lsub hx hb d_P_leftness_14 ?_
  refine lv_topl (fun v1 e_v1 => ?_)
  refine lv_lstore hx hb d_P_leftness_15 hl (by decide) rfl (fun ls hl => ?_)
  replace hl : lv_has ls 9 [(5, .long v1), (0, .ref (a 2)), (1, .int (nI i)), (2, .int (nI j)), (3, .int vx), (4, .int vy)] := hl
  refine lv_aload_n hx hb d_P_leftness_17 rfl (lv_at hl 1 rfl) ?_
  refine va_get (D := (dC, dI)) (ci := 0) (v := .ref (a 4)) (C := R_P) (T := T_P) (N := 3) hx hb htb in_P hown hK hP 2 rfl rfl 1 (by decide) (htb _ wd_34) (fun _ h9 => h9) rfl d_P_leftness_18 ?_
  refine lv_iload_n hx hb d_P_leftness_21 rfl (lv_at hl 3 rfl) ?_
  refine ec_iald (f := py) (i := j) hx hb hK hP 4 0 rfl rfl (by omega) (by decide) d_P_leftness_22 ?_
  refine lv_i2l hx hb d_P_leftness_23 rfl ?_
  refine lv_aload_n hx hb d_P_leftness_24 rfl (lv_at hl 1 rfl) ?_
  refine va_get (D := (dC, dI)) (ci := 0) (v := .ref (a 4)) (C := R_P) (T := T_P) (N := 3) hx hb htb in_P hown hK hP 2 rfl rfl 1 (by decide) (htb _ wd_34) (fun _ h9 => h9) rfl d_P_leftness_25 ?_
  refine lv_iload_n hx hb d_P_leftness_28 rfl (lv_at hl 2 rfl) ?_
  refine ec_iald (f := py) (i := i) hx hb hK hP 4 0 rfl rfl (by omega) (by decide) d_P_leftness_29 ?_
  refine lv_i2l hx hb d_P_leftness_30 rfl ?_
  refine lv_lsub hx hb d_P_leftness_31 ?_
  refine lv_topl (fun v2 e_v2 => ?_)
  refine lv_lstore hx hb d_P_leftness_32 hl (by decide) rfl (fun ls hl => ?_)
  replace hl : lv_has ls 9 [(7, .long v2), (5, .long v1), (0, .ref (a 2)), (1, .int (nI i)), (2, .int (nI j)), (3, .int vx), (4, .int vy)] := hl
  refine lv_lload hx hb d_P_leftness_34 (lv_at hl 1 rfl) ?_
  refine lv_iload hx hb d_P_leftness_36 (lv_at hl 6 rfl) ?_
  refine lv_i2l hx hb d_P_leftness_38 rfl ?_
  refine lv_aload_n hx hb d_P_leftness_39 rfl (lv_at hl 2 rfl) ?_
  refine va_get (D := (dC, dI)) (ci := 0) (v := .ref (a 4)) (C := R_P) (T := T_P) (N := 3) hx hb htb in_P hown hK hP 2 rfl rfl 1 (by decide) (htb _ wd_34) (fun _ h9 => h9) rfl d_P_leftness_40 ?_
  refine lv_iload_n hx hb d_P_leftness_43 rfl (lv_at hl 3 rfl) ?_
  refine ec_iald (f := py) (i := i) hx hb hK hP 4 0 rfl rfl (by omega) (by decide) d_P_leftness_44 ?_
  refine lv_i2l hx hb d_P_leftness_45 rfl ?_
  refine lv_lsub hx hb d_P_leftness_46 ?_
  refine lv_lmul hx hb d_P_leftness_47 ?_
  refine lv_lload hx hb d_P_leftness_48 (lv_at hl 0 rfl) ?_
  refine lv_iload_n hx hb d_P_leftness_50 rfl (lv_at hl 5 rfl) ?_
  refine lv_i2l hx hb d_P_leftness_51 rfl ?_
  refine lv_aload_n hx hb d_P_leftness_52 rfl (lv_at hl 2 rfl) ?_
  refine va_get (D := (dC, dI)) (ci := 0) (v := .ref (a 3)) (C := R_P) (T := T_P) (N := 3) hx hb htb in_P hown hK hP 2 rfl rfl 0 (by decide) (htb _ wd_31) (fun _ h9 => h9) rfl d_P_leftness_53 ?_
  refine lv_iload_n hx hb d_P_leftness_56 rfl (lv_at hl 3 rfl) ?_
  refine ec_iald (f := px) (i := i) hx hb hK hP 3 0 rfl rfl (by omega) (by decide) d_P_leftness_57 ?_
  refine lv_i2l hx hb d_P_leftness_58 rfl ?_
  refine lv_lsub hx hb d_P_leftness_59 ?_
  refine lv_lmul hx hb d_P_leftness_60 ?_
  refine lv_lsub hx hb d_P_leftness_61 ?_
  exact W.lret hx hb hr (fun tS ht hW => ⟨_, rfl, (by rw [e_v1, e_v2]; exact ec_left vx vy (gN i hi).1 (gN i hi).2 (gN j hj).1 (gN j hj).2), ht⟩) (fun _ h => nomatch h) d_P_leftness_62

set_option maxRecDepth 100000 in
set_option maxHeartbeats 4000000 in
theorem c_P_sideOfLine (l : Launch) (dC : Nat → ClassId) (dI : Nat → Nat → Nat) (a : Nat → Nat) (cI cZ cJ : ClassId) (pn : Nat) (px : Nat → Int32) (py : Nat → Int32) (ln : Nat) (lf : Nat → Nat) (lt : Nat → Nat) (lr : Nat → Nat) (sn : Nat) (sf : Nat → Nat) (st : Nat → Nat) (sr : Nat → Nat) (th : Nat → Option Nat) (hn : Nat) (qx : Nat → Int32) (qy : Nat → Int32) (mn : Nat) (mc : Nat → Nat) (mk : Nat → Prop) (mo : Nat → Option Nat) (mr : Nat → Nat) (rest : va_W) (i : Nat) (j : Nat) (k : Nat) (g12 : pn ≤ 12) (gN : ∀ i, i < pn → ec_near (px i) ∧ ec_near (py i)) (hi : i < pn) (hj : j < pn) (hk : k < pn) : Met l y_P_sideOfLine (Cond.code y_P_sideOfLine b_P_sideOfLine 4 (some .int) :: ec_tbl) ({ frames := 1, cells := 0, slots := 0, locals := 28 }) (va_Pc [.ref (a 2), .int (nI i), .int (nI j), .int (nI k)] (fun U => va_P (dC, dI) vwCl (wX a cI cZ cJ pn px py ln lf lt lr sn sf st sr th hn qx qy mn mc mk mo mr ++ rest) U.heap ∧ va_K (dC, dI) vwCl (ec_tys cI cZ cJ) U)) (vp_Si (fun r : Int32 => r = ec_sgn (ge_ori (ec_P px py i) (ec_P px py j) (ec_P px py k)))) 0 0 (fun _ => False) := by
  refine Met.ofW (cc := b_P_sideOfLine) (maxL := 4) (ret := (some .int)) (by decide) rfl ?_
  intro p e s m args below meth c s₁ B hml hv0
  obtain ⟨rfl, hP, hK⟩ := hv0
  have hx := B.exec
  have hb := B.bytes
  have hr := B.returns
  have hts := atoms_spec (ws := (Cond.code y_P_sideOfLine b_P_sideOfLine 4 (some .int) :: ec_tbl)) B.pre
  have htb : ∀ w ∈ ec_tbl, w.before _ s = true := fun w h => hts w (List.mem_cons_of_mem _ h)
  clear hts
  have hown : s.vm.findClass "ExactMesh$Points" = some m.cls := findClass_of_methodNamed B.named
  have hlocks := B.notSynchronized
  have hl := lv_entry ([.ref (a 2), .int (nI i), .int (nI j), .int (nI k)]) (n := 4) (Nat.le_of_ble_eq_true rfl)
  rw [lg_entry_eq]
  generalize (lg_sl ([.ref (a 2), .int (nI i), .int (nI j), .int (nI k)]) ++ List.replicate (4 - (lg_sl ([.ref (a 2), .int (nI i), .int (nI j), .int (nI k)])).length) Slot.unset).toArray = ls at hl ⊢
  replace hl : lv_has ls 4 [(0, .ref (a 2)), (1, .int (nI i)), (2, .int (nI j)), (3, .int (nI k))] := hl
  refine lv_aload_n hx hb d_P_sideOfLine_0 rfl (lv_at hl 0 rfl) ?_
  refine lv_iload_n hx hb d_P_sideOfLine_1 rfl (lv_at hl 1 rfl) ?_
  refine lv_iload_n hx hb d_P_sideOfLine_2 rfl (lv_at hl 2 rfl) ?_
  refine lv_aload_n hx hb d_P_sideOfLine_3 rfl (lv_at hl 0 rfl) ?_
  refine va_get (D := (dC, dI)) (ci := 0) (v := .ref (a 3)) (C := R_P) (T := T_P) (N := 3) hx hb htb in_P hown hK hP 2 rfl rfl 0 (by decide) (htb _ wd_31) (fun _ h9 => h9) rfl d_P_sideOfLine_4 ?_
  refine lv_iload_n hx hb d_P_sideOfLine_7 rfl (lv_at hl 3 rfl) ?_
  refine ec_iald (f := px) (i := k) hx hb hK hP 3 0 rfl rfl (by omega) (by decide) d_P_sideOfLine_8 ?_
  refine lv_aload_n hx hb d_P_sideOfLine_9 rfl (lv_at hl 0 rfl) ?_
  refine va_get (D := (dC, dI)) (ci := 0) (v := .ref (a 4)) (C := R_P) (T := T_P) (N := 3) hx hb htb in_P hown hK hP 2 rfl rfl 1 (by decide) (htb _ wd_34) (fun _ h9 => h9) rfl d_P_sideOfLine_10 ?_
  refine lv_iload_n hx hb d_P_sideOfLine_13 rfl (lv_at hl 3 rfl) ?_
  refine ec_iald (f := py) (i := k) hx hb hK hP 4 0 rfl rfl (by omega) (by decide) d_P_sideOfLine_14 ?_
  refine ec_vSl (C := "ExactMesh$Points") (ci := 0) (q := (R_P, T_P, 3)) (q0 := 2) (As := [.int (nI i), .int (nI j), .int (px k), .int (py k)]) (rest := []) ⟨hx, hb, hml, hown, htb⟩ (c_P_leftness l dC dI a cI cZ cJ pn px py ln lf lt lr sn sf st sr th hn qx qy mn mc mk mo mr rest i j (px k) (py k) g12 gN (by omega) (by omega)) kv_P_leftness hK hP rfl rfl rfl wd_160 ⟨Nat.le_of_ble_eq_true rfl, Nat.le_of_ble_eq_true rfl⟩ ⟨rfl, rfl⟩ rfl hl.1 rfl (Nat.le_of_ble_eq_true rfl) d_P_sideOfLine_15 ⟨Nat.zero_le _, Nat.zero_le _⟩ (fun r15 hr15 => ?_)
  replace hr15 : r15.toInt = ec_lf (px i).toInt (py i).toInt (px j).toInt (py j).toInt (px k).toInt (py k).toInt := hr15
  refine ec_sTSi (As := [.long r15]) (rest := []) ⟨hx, hb, hml, hown, htb⟩ (c_E_signOf l r15) ks_E_signOf wd_202 ⟨Nat.le_of_ble_eq_true rfl, Nat.le_of_ble_eq_true rfl⟩ ⟨rfl, rfl⟩ rfl hl.1 rfl (Nat.le_of_ble_eq_true rfl) d_P_sideOfLine_18 ⟨Nat.zero_le _, Nat.zero_le _⟩ (fun r18 hr18 => ?_)
  replace hr18 : r18 = ec_sgn r15.toInt := hr18
  subst hr18
  exact W.iret hx hb hr (fun tS ht hW => ⟨_, rfl, (by rw [hr15]; rfl), ht⟩) (fun _ h => nomatch h) d_P_sideOfLine_21

set_option maxRecDepth 100000 in
set_option maxHeartbeats 4000000 in
theorem c_P_squareDistance (l : Launch) (dC : Nat → ClassId) (dI : Nat → Nat → Nat) (a : Nat → Nat) (cI cZ cJ : ClassId) (pn : Nat) (px : Nat → Int32) (py : Nat → Int32) (ln : Nat) (lf : Nat → Nat) (lt : Nat → Nat) (lr : Nat → Nat) (sn : Nat) (sf : Nat → Nat) (st : Nat → Nat) (sr : Nat → Nat) (th : Nat → Option Nat) (hn : Nat) (qx : Nat → Int32) (qy : Nat → Int32) (mn : Nat) (mc : Nat → Nat) (mk : Nat → Prop) (mo : Nat → Option Nat) (mr : Nat → Nat) (rest : va_W) (i : Nat) (j : Nat) (g12 : pn ≤ 12) (gN : ∀ i, i < pn → ec_near (px i) ∧ ec_near (py i)) (hi : i < pn) (hj : j < pn) : Met l y_P_squareDistance (Cond.code y_P_squareDistance b_P_squareDistance 7 (some .long) :: ec_tbl) ({ frames := 0, cells := 0, slots := 0, locals := 0 }) (va_Pc [.ref (a 2), .int (nI i), .int (nI j)] (fun U => va_P (dC, dI) vwCl (wX a cI cZ cJ pn px py ln lf lt lr sn sf st sr th hn qx qy mn mc mk mo mr ++ rest) U.heap ∧ va_K (dC, dI) vwCl (ec_tys cI cZ cJ) U)) (vp_Sl (fun r : Int64 => r.toInt = ((px j).toInt - (px i).toInt) * ((px j).toInt - (px i).toInt) + ((py j).toInt - (py i).toInt) * ((py j).toInt - (py i).toInt))) 0 0 (fun _ => False) := by
  refine Met.ofW (cc := b_P_squareDistance) (maxL := 7) (ret := (some .long)) (by decide) rfl ?_
  intro p e s m args below meth c s₁ B hml hv0
  obtain ⟨rfl, hP, hK⟩ := hv0
  have hx := B.exec
  have hb := B.bytes
  have hr := B.returns
  have hts := atoms_spec (ws := (Cond.code y_P_squareDistance b_P_squareDistance 7 (some .long) :: ec_tbl)) B.pre
  have htb : ∀ w ∈ ec_tbl, w.before _ s = true := fun w h => hts w (List.mem_cons_of_mem _ h)
  clear hts
  have hown : s.vm.findClass "ExactMesh$Points" = some m.cls := findClass_of_methodNamed B.named
  have hlocks := B.notSynchronized
  have hl := lv_entry ([.ref (a 2), .int (nI i), .int (nI j)]) (n := 7) (Nat.le_of_ble_eq_true rfl)
  rw [lg_entry_eq]
  generalize (lg_sl ([.ref (a 2), .int (nI i), .int (nI j)]) ++ List.replicate (7 - (lg_sl ([.ref (a 2), .int (nI i), .int (nI j)])).length) Slot.unset).toArray = ls at hl ⊢
  replace hl : lv_has ls 7 [(0, .ref (a 2)), (1, .int (nI i)), (2, .int (nI j))] := hl
  refine lv_aload_n hx hb d_P_squareDistance_0 rfl (lv_at hl 0 rfl) ?_
  refine va_get (D := (dC, dI)) (ci := 0) (v := .ref (a 3)) (C := R_P) (T := T_P) (N := 3) hx hb htb in_P hown hK hP 2 rfl rfl 0 (by decide) (htb _ wd_31) (fun _ h9 => h9) rfl d_P_squareDistance_1 ?_
  refine lv_iload_n hx hb d_P_squareDistance_4 rfl (lv_at hl 2 rfl) ?_
  refine ec_iald (f := px) (i := j) hx hb hK hP 3 0 rfl rfl (by omega) (by decide) d_P_squareDistance_5 ?_
  refine lv_i2l hx hb d_P_squareDistance_6 rfl ?_
  refine lv_aload_n hx hb d_P_squareDistance_7 rfl (lv_at hl 0 rfl) ?_
  refine va_get (D := (dC, dI)) (ci := 0) (v := .ref (a 3)) (C := R_P) (T := T_P) (N := 3) hx hb htb in_P hown hK hP 2 rfl rfl 0 (by decide) (htb _ wd_31) (fun _ h9 => h9) rfl d_P_squareDistance_8 ?_
  refine lv_iload_n hx hb d_P_squareDistance_11 rfl (lv_at hl 1 rfl) ?_
  refine ec_iald (f := px) (i := i) hx hb hK hP 3 0 rfl rfl (by omega) (by decide) d_P_squareDistance_12 ?_
  refine lv_i2l hx hb d_P_squareDistance_13 rfl ?_
  refine lv_lsub hx hb d_P_squareDistance_14 ?_
  refine lv_topl (fun v1 e_v1 => ?_)
  refine lv_lstore_n hx hb d_P_squareDistance_15 rfl hl (by decide) rfl (fun ls hl => ?_)
  replace hl : lv_has ls 7 [(3, .long v1), (0, .ref (a 2)), (1, .int (nI i)), (2, .int (nI j))] := hl
  refine lv_aload_n hx hb d_P_squareDistance_16 rfl (lv_at hl 1 rfl) ?_
  refine va_get (D := (dC, dI)) (ci := 0) (v := .ref (a 4)) (C := R_P) (T := T_P) (N := 3) hx hb htb in_P hown hK hP 2 rfl rfl 1 (by decide) (htb _ wd_34) (fun _ h9 => h9) rfl d_P_squareDistance_17 ?_
  refine lv_iload_n hx hb d_P_squareDistance_20 rfl (lv_at hl 3 rfl) ?_
  refine ec_iald (f := py) (i := j) hx hb hK hP 4 0 rfl rfl (by omega) (by decide) d_P_squareDistance_21 ?_
  refine lv_i2l hx hb d_P_squareDistance_22 rfl ?_
  refine lv_aload_n hx hb d_P_squareDistance_23 rfl (lv_at hl 1 rfl) ?_
  refine va_get (D := (dC, dI)) (ci := 0) (v := .ref (a 4)) (C := R_P) (T := T_P) (N := 3) hx hb htb in_P hown hK hP 2 rfl rfl 1 (by decide) (htb _ wd_34) (fun _ h9 => h9) rfl d_P_squareDistance_24 ?_
  refine lv_iload_n hx hb d_P_squareDistance_27 rfl (lv_at hl 2 rfl) ?_
  refine ec_iald (f := py) (i := i) hx hb hK hP 4 0 rfl rfl (by omega) (by decide) d_P_squareDistance_28 ?_
  refine lv_i2l hx hb d_P_squareDistance_29 rfl ?_
  refine lv_lsub hx hb d_P_squareDistance_30 ?_
  refine lv_topl (fun v2 e_v2 => ?_)
  refine lv_lstore hx hb d_P_squareDistance_31 hl (by decide) rfl (fun ls hl => ?_)
  replace hl : lv_has ls 7 [(5, .long v2), (3, .long v1), (0, .ref (a 2)), (1, .int (nI i)), (2, .int (nI j))] := hl
  refine lv_lload_n hx hb d_P_squareDistance_33 rfl (lv_at hl 1 rfl) ?_
  refine lv_lload_n hx hb d_P_squareDistance_34 rfl (lv_at hl 1 rfl) ?_
  refine lv_lmul hx hb d_P_squareDistance_35 ?_
  refine lv_lload hx hb d_P_squareDistance_36 (lv_at hl 0 rfl) ?_
  refine lv_lload hx hb d_P_squareDistance_38 (lv_at hl 0 rfl) ?_
  refine lv_lmul hx hb d_P_squareDistance_40 ?_
  refine lv_ladd hx hb d_P_squareDistance_41 ?_
  exact W.lret hx hb hr (fun tS ht hW => ⟨_, rfl, (by rw [e_v1, e_v2]; exact ec_sqd (gN i hi).1 (gN i hi).2 (gN j hj).1 (gN j hj).2), ht⟩) (fun _ h => nomatch h) d_P_squareDistance_42

set_option maxRecDepth 100000 in
set_option maxHeartbeats 4000000 in
theorem c_P_sideOfCircle (l : Launch) (dC : Nat → ClassId) (dI : Nat → Nat → Nat) (a : Nat → Nat) (cI cZ cJ : ClassId) (pn : Nat) (px : Nat → Int32) (py : Nat → Int32) (ln : Nat) (lf : Nat → Nat) (lt : Nat → Nat) (lr : Nat → Nat) (sn : Nat) (sf : Nat → Nat) (st : Nat → Nat) (sr : Nat → Nat) (th : Nat → Option Nat) (hn : Nat) (qx : Nat → Int32) (qy : Nat → Int32) (mn : Nat) (mc : Nat → Nat) (mk : Nat → Prop) (mo : Nat → Option Nat) (mr : Nat → Nat) (rest : va_W) (i : Nat) (j : Nat) (k : Nat) (i4 : Nat) (g12 : pn ≤ 12) (gN : ∀ i, i < pn → ec_near (px i) ∧ ec_near (py i)) (hi : i < pn) (hj : j < pn) (hk : k < pn) (hi4 : i4 < pn) : Met l y_P_sideOfCircle (Cond.code y_P_sideOfCircle b_P_sideOfCircle 5 (some .int) :: ec_tbl) ({ frames := 2, cells := 0, slots := 0, locals := 60 }) (va_Pc [.ref (a 2), .int (nI i), .int (nI j), .int (nI k), .int (nI i4)] (fun U => va_P (dC, dI) vwCl (wX a cI cZ cJ pn px py ln lf lt lr sn sf st sr th hn qx qy mn mc mk mo mr ++ rest) U.heap ∧ va_K (dC, dI) vwCl (ec_tys cI cZ cJ) U)) (vp_Si (fun r : Int32 => r = ec_sgn (ec_circ px py i j k i4))) 0 0 (fun _ => False) := by
  refine Met.ofW (cc := b_P_sideOfCircle) (maxL := 5) (ret := (some .int)) (by decide) rfl ?_
  intro p e s m args below meth c s₁ B hml hv0
  obtain ⟨rfl, hP, hK⟩ := hv0
  have hx := B.exec
  have hb := B.bytes
  have hr := B.returns
  have hts := atoms_spec (ws := (Cond.code y_P_sideOfCircle b_P_sideOfCircle 5 (some .int) :: ec_tbl)) B.pre
  have htb : ∀ w ∈ ec_tbl, w.before _ s = true := fun w h => hts w (List.mem_cons_of_mem _ h)
  clear hts
  have hown : s.vm.findClass "ExactMesh$Points" = some m.cls := findClass_of_methodNamed B.named
  have hlocks := B.notSynchronized
  have hl := lv_entry ([.ref (a 2), .int (nI i), .int (nI j), .int (nI k), .int (nI i4)]) (n := 5) (Nat.le_of_ble_eq_true rfl)
  rw [lg_entry_eq]
  generalize (lg_sl ([.ref (a 2), .int (nI i), .int (nI j), .int (nI k), .int (nI i4)]) ++ List.replicate (5 - (lg_sl ([.ref (a 2), .int (nI i), .int (nI j), .int (nI k), .int (nI i4)])).length) Slot.unset).toArray = ls at hl ⊢
  replace hl : lv_has ls 5 [(0, .ref (a 2)), (1, .int (nI i)), (2, .int (nI j)), (3, .int (nI k)), (4, .int (nI i4))] := hl
  refine lv_aload_n hx hb d_P_sideOfCircle_0 rfl (lv_at hl 0 rfl) ?_
  refine lv_iload_n hx hb d_P_sideOfCircle_1 rfl (lv_at hl 1 rfl) ?_
  refine lv_iload hx hb d_P_sideOfCircle_2 (lv_at hl 4 rfl) ?_
  refine ec_vSl (C := "ExactMesh$Points") (ci := 0) (q := (R_P, T_P, 3)) (q0 := 2) (As := [.int (nI i), .int (nI i4)]) (rest := []) ⟨hx, hb, hml, hown, htb⟩ (c_P_squareDistance l dC dI a cI cZ cJ pn px py ln lf lt lr sn sf st sr th hn qx qy mn mc mk mo mr rest i i4 g12 gN (by omega) (by omega)) kv_P_squareDistance hK hP rfl rfl rfl wd_227 ⟨Nat.le_of_ble_eq_true rfl, Nat.le_of_ble_eq_true rfl⟩ ⟨rfl, rfl⟩ rfl hl.1 rfl (Nat.le_of_ble_eq_true rfl) d_P_sideOfCircle_4 ⟨Nat.zero_le _, Nat.zero_le _⟩ (fun r4 hr4 => ?_)
  replace hr4 : r4.toInt = ((px i4).toInt - (px i).toInt) * ((px i4).toInt - (px i).toInt) + ((py i4).toInt - (py i).toInt) * ((py i4).toInt - (py i).toInt) := hr4
  refine lv_aload_n hx hb d_P_sideOfCircle_7 rfl (lv_at hl 0 rfl) ?_
  refine lv_iload_n hx hb d_P_sideOfCircle_8 rfl (lv_at hl 2 rfl) ?_
  refine lv_iload_n hx hb d_P_sideOfCircle_9 rfl (lv_at hl 3 rfl) ?_
  refine lv_aload_n hx hb d_P_sideOfCircle_10 rfl (lv_at hl 0 rfl) ?_
  refine va_get (D := (dC, dI)) (ci := 0) (v := .ref (a 3)) (C := R_P) (T := T_P) (N := 3) hx hb htb in_P hown hK hP 2 rfl rfl 0 (by decide) (htb _ wd_31) (fun _ h9 => h9) rfl d_P_sideOfCircle_11 ?_
  refine lv_iload hx hb d_P_sideOfCircle_14 (lv_at hl 4 rfl) ?_
  refine ec_iald (f := px) (i := i4) hx hb hK hP 3 0 rfl rfl (by omega) (by decide) d_P_sideOfCircle_16 ?_
  refine lv_aload_n hx hb d_P_sideOfCircle_17 rfl (lv_at hl 0 rfl) ?_
  refine va_get (D := (dC, dI)) (ci := 0) (v := .ref (a 4)) (C := R_P) (T := T_P) (N := 3) hx hb htb in_P hown hK hP 2 rfl rfl 1 (by decide) (htb _ wd_34) (fun _ h9 => h9) rfl d_P_sideOfCircle_18 ?_
  refine lv_iload hx hb d_P_sideOfCircle_21 (lv_at hl 4 rfl) ?_
  refine ec_iald (f := py) (i := i4) hx hb hK hP 4 0 rfl rfl (by omega) (by decide) d_P_sideOfCircle_23 ?_
  refine ec_vSl (C := "ExactMesh$Points") (ci := 0) (q := (R_P, T_P, 3)) (q0 := 2) (As := [.int (nI j), .int (nI k), .int (px i4), .int (py i4)]) (rest := [.long r4]) ⟨hx, hb, hml, hown, htb⟩ (c_P_leftness l dC dI a cI cZ cJ pn px py ln lf lt lr sn sf st sr th hn qx qy mn mc mk mo mr rest j k (px i4) (py i4) g12 gN (by omega) (by omega)) kv_P_leftness hK hP rfl rfl rfl wd_160 ⟨Nat.le_of_ble_eq_true rfl, Nat.le_of_ble_eq_true rfl⟩ ⟨rfl, rfl⟩ rfl hl.1 rfl (Nat.le_of_ble_eq_true rfl) d_P_sideOfCircle_24 ⟨Nat.zero_le _, Nat.zero_le _⟩ (fun r24 hr24 => ?_)
  replace hr24 : r24.toInt = ec_lf (px j).toInt (py j).toInt (px k).toInt (py k).toInt (px i4).toInt (py i4).toInt := hr24
  refine lv_aload_n hx hb d_P_sideOfCircle_27 rfl (lv_at hl 0 rfl) ?_
  refine lv_iload_n hx hb d_P_sideOfCircle_28 rfl (lv_at hl 2 rfl) ?_
  refine lv_iload hx hb d_P_sideOfCircle_29 (lv_at hl 4 rfl) ?_
  refine ec_vSl (C := "ExactMesh$Points") (ci := 0) (q := (R_P, T_P, 3)) (q0 := 2) (As := [.int (nI j), .int (nI i4)]) (rest := [.long r24, .long r4]) ⟨hx, hb, hml, hown, htb⟩ (c_P_squareDistance l dC dI a cI cZ cJ pn px py ln lf lt lr sn sf st sr th hn qx qy mn mc mk mo mr rest j i4 g12 gN (by omega) (by omega)) kv_P_squareDistance hK hP rfl rfl rfl wd_227 ⟨Nat.le_of_ble_eq_true rfl, Nat.le_of_ble_eq_true rfl⟩ ⟨rfl, rfl⟩ rfl hl.1 rfl (Nat.le_of_ble_eq_true rfl) d_P_sideOfCircle_31 ⟨Nat.zero_le _, Nat.zero_le _⟩ (fun r31 hr31 => ?_)
  replace hr31 : r31.toInt = ((px i4).toInt - (px j).toInt) * ((px i4).toInt - (px j).toInt) + ((py i4).toInt - (py j).toInt) * ((py i4).toInt - (py j).toInt) := hr31
  refine lv_aload_n hx hb d_P_sideOfCircle_34 rfl (lv_at hl 0 rfl) ?_
  refine lv_iload_n hx hb d_P_sideOfCircle_35 rfl (lv_at hl 3 rfl) ?_
  refine lv_iload_n hx hb d_P_sideOfCircle_36 rfl (lv_at hl 1 rfl) ?_
  refine lv_aload_n hx hb d_P_sideOfCircle_37 rfl (lv_at hl 0 rfl) ?_
  refine va_get (D := (dC, dI)) (ci := 0) (v := .ref (a 3)) (C := R_P) (T := T_P) (N := 3) hx hb htb in_P hown hK hP 2 rfl rfl 0 (by decide) (htb _ wd_31) (fun _ h9 => h9) rfl d_P_sideOfCircle_38 ?_
  refine lv_iload hx hb d_P_sideOfCircle_41 (lv_at hl 4 rfl) ?_
  refine ec_iald (f := px) (i := i4) hx hb hK hP 3 0 rfl rfl (by omega) (by decide) d_P_sideOfCircle_43 ?_
  refine lv_aload_n hx hb d_P_sideOfCircle_44 rfl (lv_at hl 0 rfl) ?_
  refine va_get (D := (dC, dI)) (ci := 0) (v := .ref (a 4)) (C := R_P) (T := T_P) (N := 3) hx hb htb in_P hown hK hP 2 rfl rfl 1 (by decide) (htb _ wd_34) (fun _ h9 => h9) rfl d_P_sideOfCircle_45 ?_
  refine lv_iload hx hb d_P_sideOfCircle_48 (lv_at hl 4 rfl) ?_
  refine ec_iald (f := py) (i := i4) hx hb hK hP 4 0 rfl rfl (by omega) (by decide) d_P_sideOfCircle_50 ?_
  refine ec_vSl (C := "ExactMesh$Points") (ci := 0) (q := (R_P, T_P, 3)) (q0 := 2) (As := [.int (nI k), .int (nI i), .int (px i4), .int (py i4)]) (rest := [.long r31, .long r24, .long r4]) ⟨hx, hb, hml, hown, htb⟩ (c_P_leftness l dC dI a cI cZ cJ pn px py ln lf lt lr sn sf st sr th hn qx qy mn mc mk mo mr rest k i (px i4) (py i4) g12 gN (by omega) (by omega)) kv_P_leftness hK hP rfl rfl rfl wd_160 ⟨Nat.le_of_ble_eq_true rfl, Nat.le_of_ble_eq_true rfl⟩ ⟨rfl, rfl⟩ rfl hl.1 rfl (Nat.le_of_ble_eq_true rfl) d_P_sideOfCircle_51 ⟨Nat.zero_le _, Nat.zero_le _⟩ (fun r51 hr51 => ?_)
  replace hr51 : r51.toInt = ec_lf (px k).toInt (py k).toInt (px i).toInt (py i).toInt (px i4).toInt (py i4).toInt := hr51
  refine lv_aload_n hx hb d_P_sideOfCircle_54 rfl (lv_at hl 0 rfl) ?_
  refine lv_iload_n hx hb d_P_sideOfCircle_55 rfl (lv_at hl 3 rfl) ?_
  refine lv_iload hx hb d_P_sideOfCircle_56 (lv_at hl 4 rfl) ?_
  refine ec_vSl (C := "ExactMesh$Points") (ci := 0) (q := (R_P, T_P, 3)) (q0 := 2) (As := [.int (nI k), .int (nI i4)]) (rest := [.long r51, .long r31, .long r24, .long r4]) ⟨hx, hb, hml, hown, htb⟩ (c_P_squareDistance l dC dI a cI cZ cJ pn px py ln lf lt lr sn sf st sr th hn qx qy mn mc mk mo mr rest k i4 g12 gN (by omega) (by omega)) kv_P_squareDistance hK hP rfl rfl rfl wd_227 ⟨Nat.le_of_ble_eq_true rfl, Nat.le_of_ble_eq_true rfl⟩ ⟨rfl, rfl⟩ rfl hl.1 rfl (Nat.le_of_ble_eq_true rfl) d_P_sideOfCircle_58 ⟨Nat.zero_le _, Nat.zero_le _⟩ (fun r58 hr58 => ?_)
  replace hr58 : r58.toInt = ((px i4).toInt - (px k).toInt) * ((px i4).toInt - (px k).toInt) + ((py i4).toInt - (py k).toInt) * ((py i4).toInt - (py k).toInt) := hr58
  refine lv_aload_n hx hb d_P_sideOfCircle_61 rfl (lv_at hl 0 rfl) ?_
  refine lv_iload_n hx hb d_P_sideOfCircle_62 rfl (lv_at hl 1 rfl) ?_
  refine lv_iload_n hx hb d_P_sideOfCircle_63 rfl (lv_at hl 2 rfl) ?_
  refine lv_aload_n hx hb d_P_sideOfCircle_64 rfl (lv_at hl 0 rfl) ?_
  refine va_get (D := (dC, dI)) (ci := 0) (v := .ref (a 3)) (C := R_P) (T := T_P) (N := 3) hx hb htb in_P hown hK hP 2 rfl rfl 0 (by decide) (htb _ wd_31) (fun _ h9 => h9) rfl d_P_sideOfCircle_65 ?_
  refine lv_iload hx hb d_P_sideOfCircle_68 (lv_at hl 4 rfl) ?_
  refine ec_iald (f := px) (i := i4) hx hb hK hP 3 0 rfl rfl (by omega) (by decide) d_P_sideOfCircle_70 ?_
  refine lv_aload_n hx hb d_P_sideOfCircle_71 rfl (lv_at hl 0 rfl) ?_
  refine va_get (D := (dC, dI)) (ci := 0) (v := .ref (a 4)) (C := R_P) (T := T_P) (N := 3) hx hb htb in_P hown hK hP 2 rfl rfl 1 (by decide) (htb _ wd_34) (fun _ h9 => h9) rfl d_P_sideOfCircle_72 ?_
  refine lv_iload hx hb d_P_sideOfCircle_75 (lv_at hl 4 rfl) ?_
  refine ec_iald (f := py) (i := i4) hx hb hK hP 4 0 rfl rfl (by omega) (by decide) d_P_sideOfCircle_77 ?_
  refine ec_vSl16 (C := "ExactMesh$Points") (ci := 0) (q := (R_P, T_P, 3)) (q0 := 2) (As := [.int (nI i), .int (nI j), .int (px i4), .int (py i4)]) (rest := [.long r58, .long r51, .long r31, .long r24, .long r4]) ⟨hx, hb, hml, hown, htb⟩ (c_P_leftness l dC dI a cI cZ cJ pn px py ln lf lt lr sn sf st sr th hn qx qy mn mc mk mo mr rest i j (px i4) (py i4) g12 gN (by omega) (by omega)) kv_P_leftness hK hP rfl rfl rfl wd_160 ⟨Nat.le_of_ble_eq_true rfl, Nat.le_of_ble_eq_true rfl⟩ ⟨rfl, rfl⟩ rfl hl.1 rfl (Nat.le_of_ble_eq_true rfl) d_P_sideOfCircle_78 ⟨Nat.zero_le _, Nat.zero_le _⟩ (fun r78 hr78 => ?_)
  replace hr78 : r78.toInt = ec_lf (px i).toInt (py i).toInt (px j).toInt (py j).toInt (px i4).toInt (py i4).toInt := hr78
  refine ec_sTSi (As := [.long r4, .long r24, .long r31, .long r51, .long r58, .long r78]) (rest := []) ⟨hx, hb, hml, hown, htb⟩ (c_E_signOfProducts l r4 r24 r31 r51 r58 r78 (by rw [hr4]; exact (ec_sq_bd (ec_near_bd (gN i hi).1 (gN i4 hi4).1) (ec_near_bd (gN i hi).1 (gN i4 hi4).1) (ec_near_bd (gN i hi).2 (gN i4 hi4).2) (ec_near_bd (gN i hi).2 (gN i4 hi4).2)).1) (by rw [hr24]; exact (ec_sq_bd (ec_near_bd (gN j hj).1 (gN k hk).1) (ec_near_bd (gN j hj).2 (gN i4 hi4).2) (ec_near_bd (gN j hj).2 (gN k hk).2) (ec_near_bd (gN j hj).1 (gN i4 hi4).1)).2) (by rw [hr31]; exact (ec_sq_bd (ec_near_bd (gN j hj).1 (gN i4 hi4).1) (ec_near_bd (gN j hj).1 (gN i4 hi4).1) (ec_near_bd (gN j hj).2 (gN i4 hi4).2) (ec_near_bd (gN j hj).2 (gN i4 hi4).2)).1) (by rw [hr51]; exact (ec_sq_bd (ec_near_bd (gN k hk).1 (gN i hi).1) (ec_near_bd (gN k hk).2 (gN i4 hi4).2) (ec_near_bd (gN k hk).2 (gN i hi).2) (ec_near_bd (gN k hk).1 (gN i4 hi4).1)).2) (by rw [hr58]; exact (ec_sq_bd (ec_near_bd (gN k hk).1 (gN i4 hi4).1) (ec_near_bd (gN k hk).1 (gN i4 hi4).1) (ec_near_bd (gN k hk).2 (gN i4 hi4).2) (ec_near_bd (gN k hk).2 (gN i4 hi4).2)).1) (by rw [hr78]; exact (ec_sq_bd (ec_near_bd (gN i hi).1 (gN j hj).1) (ec_near_bd (gN i hi).2 (gN i4 hi4).2) (ec_near_bd (gN i hi).2 (gN j hj).2) (ec_near_bd (gN i hi).1 (gN i4 hi4).1)).2)) ks_E_signOfProducts wd_231 ⟨Nat.le_of_ble_eq_true rfl, Nat.le_of_ble_eq_true rfl⟩ ⟨rfl, rfl⟩ rfl hl.1 rfl (Nat.le_of_ble_eq_true rfl) d_P_sideOfCircle_81 ⟨Nat.zero_le _, Nat.zero_le _⟩ (fun r81 hr81 => ?_)
  replace hr81 : r81 = ec_sgn (r4.toInt * r24.toInt + r31.toInt * r51.toInt + r58.toInt * r78.toInt) := hr81
  subst hr81
  exact W.iret hx hb hr (fun tS ht hW => ⟨_, rfl, (by rw [hr4, hr24, hr31, hr51, hr58, hr78]; unfold ec_circ; rw [ge_circ_eq]; rfl), ht⟩) (fun _ h => nomatch h) d_P_sideOfCircle_84

set_option maxRecDepth 100000 in
set_option maxHeartbeats 4000000 in
theorem c_P_isBetween (l : Launch) (dC : Nat → ClassId) (dI : Nat → Nat → Nat) (a : Nat → Nat) (cI cZ cJ : ClassId) (pn : Nat) (px : Nat → Int32) (py : Nat → Int32) (ln : Nat) (lf : Nat → Nat) (lt : Nat → Nat) (lr : Nat → Nat) (sn : Nat) (sf : Nat → Nat) (st : Nat → Nat) (sr : Nat → Nat) (th : Nat → Option Nat) (hn : Nat) (qx : Nat → Int32) (qy : Nat → Int32) (mn : Nat) (mc : Nat → Nat) (mk : Nat → Prop) (mo : Nat → Option Nat) (mr : Nat → Nat) (rest : va_W) (i : Nat) (j : Nat) (vx : Int32) (vy : Int32) (g12 : pn ≤ 12) (gN : ∀ i, i < pn → ec_near (px i) ∧ ec_near (py i)) (hi : i < pn) (hj : j < pn) : Met l y_P_isBetween (Cond.code y_P_isBetween b_P_isBetween 5 (some .boolean) :: ec_tbl) ({ frames := 1, cells := 0, slots := 0, locals := 28 }) (va_Pc [.ref (a 2), .int (nI i), .int (nI j), .int vx, .int vy] (fun U => va_P (dC, dI) vwCl (wX a cI cZ cJ pn px py ln lf lt lr sn sf st sr th hn qx qy mn mc mk mo mr ++ rest) U.heap ∧ va_K (dC, dI) vwCl (ec_tys cI cZ cJ) U)) (vp_Si (fun r : Int32 => ec_isB r (ec_on (px i).toInt (py i).toInt (px j).toInt (py j).toInt vx.toInt vy.toInt))) 0 0 (fun _ => False) := by
  refine Met.ofW (cc := b_P_isBetween) (maxL := 5) (ret := (some .boolean)) (by decide) rfl ?_
  intro p e s m args below meth c s₁ B hml hv0
  obtain ⟨rfl, hP, hK⟩ := hv0
  have hx := B.exec
  have hb := B.bytes
  have hr := B.returns
  have hts := atoms_spec (ws := (Cond.code y_P_isBetween b_P_isBetween 5 (some .boolean) :: ec_tbl)) B.pre
  have htb : ∀ w ∈ ec_tbl, w.before _ s = true := fun w h => hts w (List.mem_cons_of_mem _ h)
  clear hts
  have hown : s.vm.findClass "ExactMesh$Points" = some m.cls := findClass_of_methodNamed B.named
  have hlocks := B.notSynchronized
  have hl := lv_entry ([.ref (a 2), .int (nI i), .int (nI j), .int vx, .int vy]) (n := 5) (Nat.le_of_ble_eq_true rfl)
  rw [lg_entry_eq]
  generalize (lg_sl ([.ref (a 2), .int (nI i), .int (nI j), .int vx, .int vy]) ++ List.replicate (5 - (lg_sl ([.ref (a 2), .int (nI i), .int (nI j), .int vx, .int vy])).length) Slot.unset).toArray = ls at hl ⊢
  replace hl : lv_has ls 5 [(0, .ref (a 2)), (1, .int (nI i)), (2, .int (nI j)), (3, .int vx), (4, .int vy)] := hl
  refine lv_iload_n hx hb d_P_isBetween_0 rfl (lv_at hl 3 rfl) ?_
  refine lv_aload_n hx hb d_P_isBetween_1 rfl (lv_at hl 0 rfl) ?_
  refine va_get (D := (dC, dI)) (ci := 0) (v := .ref (a 3)) (C := R_P) (T := T_P) (N := 3) hx hb htb in_P hown hK hP 2 rfl rfl 0 (by decide) (htb _ wd_31) (fun _ h9 => h9) rfl d_P_isBetween_2 ?_
  refine lv_iload_n hx hb d_P_isBetween_5 rfl (lv_at hl 1 rfl) ?_
  refine ec_iald (f := px) (i := i) hx hb hK hP 3 0 rfl rfl (by omega) (by decide) d_P_isBetween_6 ?_
  refine lv_aload_n hx hb d_P_isBetween_7 rfl (lv_at hl 0 rfl) ?_
  refine va_get (D := (dC, dI)) (ci := 0) (v := .ref (a 3)) (C := R_P) (T := T_P) (N := 3) hx hb htb in_P hown hK hP 2 rfl rfl 0 (by decide) (htb _ wd_31) (fun _ h9 => h9) rfl d_P_isBetween_8 ?_
  refine lv_iload_n hx hb d_P_isBetween_11 rfl (lv_at hl 2 rfl) ?_
  refine ec_iald (f := px) (i := j) hx hb hK hP 3 0 rfl rfl (by omega) (by decide) d_P_isBetween_12 ?_
  refine va_mmin hx hb (hml.trans hl.1.symm) hown (htb _ wd_154) (htb _ wd_155) (htb _ wd_7) (htb _ wd_156) (Nat.le_of_ble_eq_true rfl) (Nat.le_of_ble_eq_true rfl) (Nat.zero_le _) (Nat.zero_le _) d_P_isBetween_13 ?_
  refine lv_icmp_lt (tgt := 96) hx hb d_P_isBetween_16 rfl (fun h16 => ?_) (fun h16 => ?_)
  · refine lv_iconst (v := nI 0) hx hb d_P_isBetween_96 (by decide) ?_
    exact W.zret hx hb hr rfl (fun tS ht hW => ⟨_, rfl, (ec_isB.f0 (fun q => by have h := ec_bt_lo h16; have := q.2.1; omega)), ht⟩) (fun _ h => nomatch h) d_P_isBetween_97
  · refine lv_iload_n hx hb d_P_isBetween_19 rfl (lv_at hl 3 rfl) ?_
    refine lv_aload_n hx hb d_P_isBetween_20 rfl (lv_at hl 0 rfl) ?_
    refine va_get (D := (dC, dI)) (ci := 0) (v := .ref (a 3)) (C := R_P) (T := T_P) (N := 3) hx hb htb in_P hown hK hP 2 rfl rfl 0 (by decide) (htb _ wd_31) (fun _ h9 => h9) rfl d_P_isBetween_21 ?_
    refine lv_iload_n hx hb d_P_isBetween_24 rfl (lv_at hl 1 rfl) ?_
    refine ec_iald (f := px) (i := i) hx hb hK hP 3 0 rfl rfl (by omega) (by decide) d_P_isBetween_25 ?_
    refine lv_aload_n hx hb d_P_isBetween_26 rfl (lv_at hl 0 rfl) ?_
    refine va_get (D := (dC, dI)) (ci := 0) (v := .ref (a 3)) (C := R_P) (T := T_P) (N := 3) hx hb htb in_P hown hK hP 2 rfl rfl 0 (by decide) (htb _ wd_31) (fun _ h9 => h9) rfl d_P_isBetween_27 ?_
    refine lv_iload_n hx hb d_P_isBetween_30 rfl (lv_at hl 2 rfl) ?_
    refine ec_iald (f := px) (i := j) hx hb hK hP 3 0 rfl rfl (by omega) (by decide) d_P_isBetween_31 ?_
    refine va_mmax hx hb (hml.trans hl.1.symm) hown (htb _ wd_157) (htb _ wd_158) (htb _ wd_7) (htb _ wd_159) (Nat.le_of_ble_eq_true rfl) (Nat.le_of_ble_eq_true rfl) (Nat.zero_le _) (Nat.zero_le _) d_P_isBetween_32 ?_
    refine lv_icmp_gt (tgt := 96) hx hb d_P_isBetween_35 rfl (fun h35 => ?_) (fun h35 => ?_)
    · refine lv_iconst (v := nI 0) hx hb d_P_isBetween_96 (by decide) ?_
      exact W.zret hx hb hr rfl (fun tS ht hW => ⟨_, rfl, (ec_isB.f0 (fun q => by have h := ec_bt_hi h35; have := q.2.2.1; omega)), ht⟩) (fun _ h => nomatch h) d_P_isBetween_97
    · refine lv_iload hx hb d_P_isBetween_38 (lv_at hl 4 rfl) ?_
      refine lv_aload_n hx hb d_P_isBetween_40 rfl (lv_at hl 0 rfl) ?_
      refine va_get (D := (dC, dI)) (ci := 0) (v := .ref (a 4)) (C := R_P) (T := T_P) (N := 3) hx hb htb in_P hown hK hP 2 rfl rfl 1 (by decide) (htb _ wd_34) (fun _ h9 => h9) rfl d_P_isBetween_41 ?_
      refine lv_iload_n hx hb d_P_isBetween_44 rfl (lv_at hl 1 rfl) ?_
      refine ec_iald (f := py) (i := i) hx hb hK hP 4 0 rfl rfl (by omega) (by decide) d_P_isBetween_45 ?_
      refine lv_aload_n hx hb d_P_isBetween_46 rfl (lv_at hl 0 rfl) ?_
      refine va_get (D := (dC, dI)) (ci := 0) (v := .ref (a 4)) (C := R_P) (T := T_P) (N := 3) hx hb htb in_P hown hK hP 2 rfl rfl 1 (by decide) (htb _ wd_34) (fun _ h9 => h9) rfl d_P_isBetween_47 ?_
      refine lv_iload_n hx hb d_P_isBetween_50 rfl (lv_at hl 2 rfl) ?_
      refine ec_iald (f := py) (i := j) hx hb hK hP 4 0 rfl rfl (by omega) (by decide) d_P_isBetween_51 ?_
      refine va_mmin hx hb (hml.trans hl.1.symm) hown (htb _ wd_154) (htb _ wd_155) (htb _ wd_7) (htb _ wd_156) (Nat.le_of_ble_eq_true rfl) (Nat.le_of_ble_eq_true rfl) (Nat.zero_le _) (Nat.zero_le _) d_P_isBetween_52 ?_
      refine lv_icmp_lt (tgt := 96) hx hb d_P_isBetween_55 rfl (fun h55 => ?_) (fun h55 => ?_)
      · refine lv_iconst (v := nI 0) hx hb d_P_isBetween_96 (by decide) ?_
        exact W.zret hx hb hr rfl (fun tS ht hW => ⟨_, rfl, (ec_isB.f0 (fun q => by have h := ec_bt_lo h55; have := q.2.2.2.1; omega)), ht⟩) (fun _ h => nomatch h) d_P_isBetween_97
      · refine lv_iload hx hb d_P_isBetween_58 (lv_at hl 4 rfl) ?_
        refine lv_aload_n hx hb d_P_isBetween_60 rfl (lv_at hl 0 rfl) ?_
        refine va_get (D := (dC, dI)) (ci := 0) (v := .ref (a 4)) (C := R_P) (T := T_P) (N := 3) hx hb htb in_P hown hK hP 2 rfl rfl 1 (by decide) (htb _ wd_34) (fun _ h9 => h9) rfl d_P_isBetween_61 ?_
        refine lv_iload_n hx hb d_P_isBetween_64 rfl (lv_at hl 1 rfl) ?_
        refine ec_iald (f := py) (i := i) hx hb hK hP 4 0 rfl rfl (by omega) (by decide) d_P_isBetween_65 ?_
        refine lv_aload_n hx hb d_P_isBetween_66 rfl (lv_at hl 0 rfl) ?_
        refine va_get (D := (dC, dI)) (ci := 0) (v := .ref (a 4)) (C := R_P) (T := T_P) (N := 3) hx hb htb in_P hown hK hP 2 rfl rfl 1 (by decide) (htb _ wd_34) (fun _ h9 => h9) rfl d_P_isBetween_67 ?_
        refine lv_iload_n hx hb d_P_isBetween_70 rfl (lv_at hl 2 rfl) ?_
        refine ec_iald (f := py) (i := j) hx hb hK hP 4 0 rfl rfl (by omega) (by decide) d_P_isBetween_71 ?_
        refine va_mmax hx hb (hml.trans hl.1.symm) hown (htb _ wd_157) (htb _ wd_158) (htb _ wd_7) (htb _ wd_159) (Nat.le_of_ble_eq_true rfl) (Nat.le_of_ble_eq_true rfl) (Nat.zero_le _) (Nat.zero_le _) d_P_isBetween_72 ?_
        refine lv_icmp_gt (tgt := 96) hx hb d_P_isBetween_75 rfl (fun h75 => ?_) (fun h75 => ?_)
        · refine lv_iconst (v := nI 0) hx hb d_P_isBetween_96 (by decide) ?_
          exact W.zret hx hb hr rfl (fun tS ht hW => ⟨_, rfl, (ec_isB.f0 (fun q => by have h := ec_bt_hi h75; have := q.2.2.2.2; omega)), ht⟩) (fun _ h => nomatch h) d_P_isBetween_97
        · refine lv_aload_n hx hb d_P_isBetween_78 rfl (lv_at hl 0 rfl) ?_
          refine lv_iload_n hx hb d_P_isBetween_79 rfl (lv_at hl 1 rfl) ?_
          refine lv_iload_n hx hb d_P_isBetween_80 rfl (lv_at hl 2 rfl) ?_
          refine lv_iload_n hx hb d_P_isBetween_81 rfl (lv_at hl 3 rfl) ?_
          refine lv_iload hx hb d_P_isBetween_82 (lv_at hl 4 rfl) ?_
          refine ec_vSl (C := "ExactMesh$Points") (ci := 0) (q := (R_P, T_P, 3)) (q0 := 2) (As := [.int (nI i), .int (nI j), .int vx, .int vy]) (rest := []) ⟨hx, hb, hml, hown, htb⟩ (c_P_leftness l dC dI a cI cZ cJ pn px py ln lf lt lr sn sf st sr th hn qx qy mn mc mk mo mr rest i j vx vy g12 gN (by omega) (by omega)) kv_P_leftness hK hP rfl rfl rfl wd_160 ⟨Nat.le_of_ble_eq_true rfl, Nat.le_of_ble_eq_true rfl⟩ ⟨rfl, rfl⟩ rfl hl.1 rfl (Nat.le_of_ble_eq_true rfl) d_P_isBetween_84 ⟨Nat.zero_le _, Nat.zero_le _⟩ (fun r84 hr84 => ?_)
          replace hr84 : r84.toInt = ec_lf (px i).toInt (py i).toInt (px j).toInt (py j).toInt vx.toInt vy.toInt := hr84
          refine lv_lconst (v := 0) hx hb d_P_isBetween_87 (by decide) ?_
          refine W.lcmp hx hb d_P_isBetween_88 ?_
          refine lv_if_ne (tgt := 96) hx hb d_P_isBetween_89 rfl (fun h89 => ?_) (fun h89 => ?_)
          · rw [lg_cmp_eq] at h89
            refine lv_iconst (v := nI 0) hx hb d_P_isBetween_96 (by decide) ?_
            exact W.zret hx hb hr rfl (fun tS ht hW => ⟨_, rfl, (ec_isB.f0 (fun q => h89 (by rw [ec_eq0, hr84]; exact q.1))), ht⟩) (fun _ h => nomatch h) d_P_isBetween_97
          · rw [lg_cmp_eq] at h89
            refine lv_iconst (v := nI 1) hx hb d_P_isBetween_92 (by decide) ?_
            refine lv_goto (tgt := 97) hx hb d_P_isBetween_93 rfl ?_
            exact W.zret hx hb hr rfl (fun tS ht hW => ⟨_, rfl, (ec_isB.t1 ⟨by rw [ec_eq0, hr84] at h89; exact h89, ec_bt_lo' h16, ec_bt_hi' h35, ec_bt_lo' h55, ec_bt_hi' h75⟩), ht⟩) (fun _ h => nomatch h) d_P_isBetween_97

set_option maxRecDepth 100000 in
set_option maxHeartbeats 4000000 in
theorem c_P_numberAt (l : Launch) (dC : Nat → ClassId) (dI : Nat → Nat → Nat) (a : Nat → Nat) (cI cZ cJ : ClassId) (pn : Nat) (px : Nat → Int32) (py : Nat → Int32) (ln : Nat) (lf : Nat → Nat) (lt : Nat → Nat) (lr : Nat → Nat) (sn : Nat) (sf : Nat → Nat) (st : Nat → Nat) (sr : Nat → Nat) (th : Nat → Option Nat) (hn : Nat) (qx : Nat → Int32) (qy : Nat → Int32) (mn : Nat) (mc : Nat → Nat) (mk : Nat → Prop) (mo : Nat → Option Nat) (mr : Nat → Nat) (rest : va_W) (vx : Int32) (vy : Int32) (g12 : pn ≤ 12) : Met l y_P_numberAt (Cond.code y_P_numberAt b_P_numberAt 4 (some .int) :: ec_tbl) ({ frames := 0, cells := 0, slots := 0, locals := 0 }) (va_Pc [.ref (a 2), .int vx, .int vy] (fun U => va_P (dC, dI) vwCl (wX a cI cZ cJ pn px py ln lf lt lr sn sf st sr th hn qx qy mn mc mk mo mr ++ rest) U.heap ∧ va_K (dC, dI) vwCl (ec_tys cI cZ cJ) U)) (vp_Si (fun r : Int32 => ∃ o, r = ec_oi o ∧ ec_num pn px py vx vy o)) 0 0 (fun _ => False) := by
  refine Met.ofW (cc := b_P_numberAt) (maxL := 4) (ret := (some .int)) (by decide) rfl ?_
  intro p e s m args below meth c s₁ B hml hv0
  obtain ⟨rfl, hP, hK⟩ := hv0
  have hx := B.exec
  have hb := B.bytes
  have hr := B.returns
  have hts := atoms_spec (ws := (Cond.code y_P_numberAt b_P_numberAt 4 (some .int) :: ec_tbl)) B.pre
  have htb : ∀ w ∈ ec_tbl, w.before _ s = true := fun w h => hts w (List.mem_cons_of_mem _ h)
  clear hts
  have hown : s.vm.findClass "ExactMesh$Points" = some m.cls := findClass_of_methodNamed B.named
  have hlocks := B.notSynchronized
  have hl := lv_entry ([.ref (a 2), .int vx, .int vy]) (n := 4) (Nat.le_of_ble_eq_true rfl)
  rw [lg_entry_eq]
  generalize (lg_sl ([.ref (a 2), .int vx, .int vy]) ++ List.replicate (4 - (lg_sl ([.ref (a 2), .int vx, .int vy])).length) Slot.unset).toArray = ls at hl ⊢
  replace hl : lv_has ls 4 [(0, .ref (a 2)), (1, .int vx), (2, .int vy)] := hl
  refine lv_iconst (v := nI 0) hx hb d_P_numberAt_0 (by decide) ?_
  refine lv_istore_n hx hb d_P_numberAt_1 rfl hl (by decide) rfl (fun ls hl => ?_)
  replace hl : lv_has ls 4 [(3, .int (nI 0)), (0, .ref (a 2)), (1, .int vx), (2, .int vy)] := hl
  obtain ⟨i, e_i⟩ : ∃ z : Nat, z = 0 := ⟨_, rfl⟩
  replace hl : lv_has ls 4 [(0, .ref (a 2)), (1, .int vx), (2, .int vy), (3, .int (nI i))] := by (try simp only [e_i]); exact lv_sub hl [1, 2, 3, 0] rfl
  have hle : i ≤ pn := by omega
  have hI : ∀ v, v < i → ¬ (px v = vx ∧ py v = vy) := by exact fun v hv => by omega
  clear e_i
  generalize hk2 : pn - i = k2
  induction k2 using Nat.strongRecOn generalizing i ls with
  | ind k2 ih2 =>
  refine lv_iload_n hx hb d_P_numberAt_2 rfl (lv_at hl 3 rfl) ?_
  refine lv_aload_n hx hb d_P_numberAt_3 rfl (lv_at hl 0 rfl) ?_
  refine va_get (D := (dC, dI)) (ci := 0) (v := .int (nI pn)) (C := R_P) (T := T_P) (N := 3) hx hb htb in_P hown hK hP 2 rfl rfl 2 (by decide) (htb _ wd_37) (fun _ h9 => h9) rfl d_P_numberAt_4 ?_
  refine ec_icmp_ge (tgt := 38) hx hb d_P_numberAt_7 rfl (by omega) (by omega) (fun h7 => ?_) (fun h7 => ?_)
  · refine lv_iconst (v := -1) hx hb d_P_numberAt_38 (by decide) ?_
    exact W.iret hx hb hr (fun tS ht hW => ⟨_, rfl, ⟨none, rfl, fun v q => (by cases q), fun _ v hv => hI v (by omega)⟩, ht⟩) (fun _ h => nomatch h) d_P_numberAt_39
  · refine lv_aload_n hx hb d_P_numberAt_10 rfl (lv_at hl 0 rfl) ?_
    refine va_get (D := (dC, dI)) (ci := 0) (v := .ref (a 3)) (C := R_P) (T := T_P) (N := 3) hx hb htb in_P hown hK hP 2 rfl rfl 0 (by decide) (htb _ wd_31) (fun _ h9 => h9) rfl d_P_numberAt_11 ?_
    refine lv_iload_n hx hb d_P_numberAt_14 rfl (lv_at hl 3 rfl) ?_
    refine ec_iald (f := px) (i := i) hx hb hK hP 3 0 rfl rfl (by omega) (by decide) d_P_numberAt_15 ?_
    refine lv_iload_n hx hb d_P_numberAt_16 rfl (lv_at hl 1 rfl) ?_
    refine lv_icmp_ne (tgt := 32) hx hb d_P_numberAt_17 rfl (fun h17 => ?_) (fun h17 => ?_)
    · refine ec_iinc (k := 3) hx hb d_P_numberAt_32 hl rfl (by decide) rfl (fun ls hl => ?_)
      replace hl : lv_has ls 4 [(3, .int (nI (i + 1))), (0, .ref (a 2)), (1, .int vx), (2, .int vy)] := hl
      refine lv_goto (tgt := 2) hx hb d_P_numberAt_35 rfl ?_
      exact ih2 _ (by omega) (i := i + 1) (ls := ls) (hl := lv_sub hl [1, 2, 3, 0] rfl) (hle := (by omega)) (hI := (lt_s hI (by first | exact fun q => h17 q.1 | exact fun q => h27 q.2))) (hk2 := rfl)
    · refine lv_aload_n hx hb d_P_numberAt_20 rfl (lv_at hl 0 rfl) ?_
      refine va_get (D := (dC, dI)) (ci := 0) (v := .ref (a 4)) (C := R_P) (T := T_P) (N := 3) hx hb htb in_P hown hK hP 2 rfl rfl 1 (by decide) (htb _ wd_34) (fun _ h9 => h9) rfl d_P_numberAt_21 ?_
      refine lv_iload_n hx hb d_P_numberAt_24 rfl (lv_at hl 3 rfl) ?_
      refine ec_iald (f := py) (i := i) hx hb hK hP 4 0 rfl rfl (by omega) (by decide) d_P_numberAt_25 ?_
      refine lv_iload_n hx hb d_P_numberAt_26 rfl (lv_at hl 2 rfl) ?_
      refine lv_icmp_ne (tgt := 32) hx hb d_P_numberAt_27 rfl (fun h27 => ?_) (fun h27 => ?_)
      · refine ec_iinc (k := 3) hx hb d_P_numberAt_32 hl rfl (by decide) rfl (fun ls hl => ?_)
        replace hl : lv_has ls 4 [(3, .int (nI (i + 1))), (0, .ref (a 2)), (1, .int vx), (2, .int vy)] := hl
        refine lv_goto (tgt := 2) hx hb d_P_numberAt_35 rfl ?_
        exact ih2 _ (by omega) (i := i + 1) (ls := ls) (hl := lv_sub hl [1, 2, 3, 0] rfl) (hle := (by omega)) (hI := (lt_s hI (by first | exact fun q => h17 q.1 | exact fun q => h27 q.2))) (hk2 := rfl)
      · refine lv_iload_n hx hb d_P_numberAt_30 rfl (lv_at hl 3 rfl) ?_
        exact W.iret hx hb hr (fun tS ht hW => ⟨_, rfl, ⟨some i, rfl, fun v q => by cases q; exact ⟨by omega, h17, h27⟩, fun q => (by cases q)⟩, ht⟩) (fun _ h => nomatch h) d_P_numberAt_31

set_option maxRecDepth 100000 in
set_option maxHeartbeats 4000000 in
theorem c_P_anyBetween (l : Launch) (dC : Nat → ClassId) (dI : Nat → Nat → Nat) (a : Nat → Nat) (cI cZ cJ : ClassId) (pn : Nat) (px : Nat → Int32) (py : Nat → Int32) (ln : Nat) (lf : Nat → Nat) (lt : Nat → Nat) (lr : Nat → Nat) (sn : Nat) (sf : Nat → Nat) (st : Nat → Nat) (sr : Nat → Nat) (th : Nat → Option Nat) (hn : Nat) (qx : Nat → Int32) (qy : Nat → Int32) (mn : Nat) (mc : Nat → Nat) (mk : Nat → Prop) (mo : Nat → Option Nat) (mr : Nat → Nat) (rest : va_W) (i : Nat) (j : Nat) (g12 : pn ≤ 12) (gN : ∀ i, i < pn → ec_near (px i) ∧ ec_near (py i)) (hi : i < pn) (hj : j < pn) : Met l y_P_anyBetween (Cond.code y_P_anyBetween b_P_anyBetween 4 (some .boolean) :: ec_tbl) ({ frames := 2, cells := 0, slots := 0, locals := 52 }) (va_Pc [.ref (a 2), .int (nI i), .int (nI j)] (fun U => va_P (dC, dI) vwCl (wX a cI cZ cJ pn px py ln lf lt lr sn sf st sr th hn qx qy mn mc mk mo mr ++ rest) U.heap ∧ va_K (dC, dI) vwCl (ec_tys cI cZ cJ) U)) (vp_Si (fun r : Int32 => ec_isB r (∃ v, v < pn ∧ v ≠ i ∧ v ≠ j ∧ ge_Btw (ec_P px py i) (ec_P px py j) (ec_P px py v)))) 0 0 (fun _ => False) := by
  refine Met.ofW (cc := b_P_anyBetween) (maxL := 4) (ret := (some .boolean)) (by decide) rfl ?_
  intro p e s m args below meth c s₁ B hml hv0
  obtain ⟨rfl, hP, hK⟩ := hv0
  have hx := B.exec
  have hb := B.bytes
  have hr := B.returns
  have hts := atoms_spec (ws := (Cond.code y_P_anyBetween b_P_anyBetween 4 (some .boolean) :: ec_tbl)) B.pre
  have htb : ∀ w ∈ ec_tbl, w.before _ s = true := fun w h => hts w (List.mem_cons_of_mem _ h)
  clear hts
  have hown : s.vm.findClass "ExactMesh$Points" = some m.cls := findClass_of_methodNamed B.named
  have hlocks := B.notSynchronized
  have hl := lv_entry ([.ref (a 2), .int (nI i), .int (nI j)]) (n := 4) (Nat.le_of_ble_eq_true rfl)
  rw [lg_entry_eq]
  generalize (lg_sl ([.ref (a 2), .int (nI i), .int (nI j)]) ++ List.replicate (4 - (lg_sl ([.ref (a 2), .int (nI i), .int (nI j)])).length) Slot.unset).toArray = ls at hl ⊢
  replace hl : lv_has ls 4 [(0, .ref (a 2)), (1, .int (nI i)), (2, .int (nI j))] := hl
  refine lv_iconst (v := nI 0) hx hb d_P_anyBetween_0 (by decide) ?_
  refine lv_istore_n hx hb d_P_anyBetween_1 rfl hl (by decide) rfl (fun ls hl => ?_)
  replace hl : lv_has ls 4 [(3, .int (nI 0)), (0, .ref (a 2)), (1, .int (nI i)), (2, .int (nI j))] := hl
  obtain ⟨k, e_k⟩ : ∃ z : Nat, z = 0 := ⟨_, rfl⟩
  replace hl : lv_has ls 4 [(0, .ref (a 2)), (1, .int (nI i)), (2, .int (nI j)), (3, .int (nI k))] := by (try simp only [e_k]); exact lv_sub hl [1, 2, 3, 0] rfl
  have hle : k ≤ pn := by omega
  have hI : ∀ v, v < k → ¬ (v ≠ i ∧ v ≠ j ∧ ge_Btw (ec_P px py i) (ec_P px py j) (ec_P px py v)) := by exact fun v hv => by omega
  clear e_k
  generalize hk2 : pn - k = k2
  induction k2 using Nat.strongRecOn generalizing k ls with
  | ind k2 ih2 =>
  refine lv_iload_n hx hb d_P_anyBetween_2 rfl (lv_at hl 3 rfl) ?_
  refine lv_aload_n hx hb d_P_anyBetween_3 rfl (lv_at hl 0 rfl) ?_
  refine va_get (D := (dC, dI)) (ci := 0) (v := .int (nI pn)) (C := R_P) (T := T_P) (N := 3) hx hb htb in_P hown hK hP 2 rfl rfl 2 (by decide) (htb _ wd_37) (fun _ h9 => h9) rfl d_P_anyBetween_4 ?_
  refine ec_icmp_ge (tgt := 49) hx hb d_P_anyBetween_7 rfl (by omega) (by omega) (fun h7 => ?_) (fun h7 => ?_)
  · refine lv_iconst (v := nI 0) hx hb d_P_anyBetween_49 (by decide) ?_
    exact W.zret hx hb hr rfl (fun tS ht hW => ⟨_, rfl, (ec_isB.f0 (fun ⟨v, hv, q⟩ => hI v (by omega) q)), ht⟩) (fun _ h => nomatch h) d_P_anyBetween_50
  · refine lv_iload_n hx hb d_P_anyBetween_10 rfl (lv_at hl 3 rfl) ?_
    refine lv_iload_n hx hb d_P_anyBetween_11 rfl (lv_at hl 1 rfl) ?_
    refine ec_icmp_eq (tgt := 43) hx hb d_P_anyBetween_12 rfl (by omega) (by omega) (fun h12 => ?_) (fun h12 => ?_)
    · refine ec_iinc (k := 3) hx hb d_P_anyBetween_43 hl rfl (by decide) rfl (fun ls hl => ?_)
      replace hl : lv_has ls 4 [(3, .int (nI (k + 1))), (0, .ref (a 2)), (1, .int (nI i)), (2, .int (nI j))] := hl
      refine lv_goto (tgt := 2) hx hb d_P_anyBetween_46 rfl ?_
      exact ih2 _ (by omega) (k := k + 1) (ls := ls) (hl := lv_sub hl [1, 2, 3, 0] rfl) (hle := (by omega)) (hI := (lt_s hI (by first | exact fun q => q.1 h12 | exact fun q => q.2.1 h17 | exact fun q => h38 q.2.2))) (hk2 := rfl)
    · refine lv_iload_n hx hb d_P_anyBetween_15 rfl (lv_at hl 3 rfl) ?_
      refine lv_iload_n hx hb d_P_anyBetween_16 rfl (lv_at hl 2 rfl) ?_
      refine ec_icmp_eq (tgt := 43) hx hb d_P_anyBetween_17 rfl (by omega) (by omega) (fun h17 => ?_) (fun h17 => ?_)
      · refine ec_iinc (k := 3) hx hb d_P_anyBetween_43 hl rfl (by decide) rfl (fun ls hl => ?_)
        replace hl : lv_has ls 4 [(3, .int (nI (k + 1))), (0, .ref (a 2)), (1, .int (nI i)), (2, .int (nI j))] := hl
        refine lv_goto (tgt := 2) hx hb d_P_anyBetween_46 rfl ?_
        exact ih2 _ (by omega) (k := k + 1) (ls := ls) (hl := lv_sub hl [1, 2, 3, 0] rfl) (hle := (by omega)) (hI := (lt_s hI (by first | exact fun q => q.1 h12 | exact fun q => q.2.1 h17 | exact fun q => h38 q.2.2))) (hk2 := rfl)
      · refine lv_aload_n hx hb d_P_anyBetween_20 rfl (lv_at hl 0 rfl) ?_
        refine lv_iload_n hx hb d_P_anyBetween_21 rfl (lv_at hl 1 rfl) ?_
        refine lv_iload_n hx hb d_P_anyBetween_22 rfl (lv_at hl 2 rfl) ?_
        refine lv_aload_n hx hb d_P_anyBetween_23 rfl (lv_at hl 0 rfl) ?_
        refine va_get (D := (dC, dI)) (ci := 0) (v := .ref (a 3)) (C := R_P) (T := T_P) (N := 3) hx hb htb in_P hown hK hP 2 rfl rfl 0 (by decide) (htb _ wd_31) (fun _ h9 => h9) rfl d_P_anyBetween_24 ?_
        refine lv_iload_n hx hb d_P_anyBetween_27 rfl (lv_at hl 3 rfl) ?_
        refine ec_iald (f := px) (i := k) hx hb hK hP 3 0 rfl rfl (by omega) (by decide) d_P_anyBetween_28 ?_
        refine lv_aload_n hx hb d_P_anyBetween_29 rfl (lv_at hl 0 rfl) ?_
        refine va_get (D := (dC, dI)) (ci := 0) (v := .ref (a 4)) (C := R_P) (T := T_P) (N := 3) hx hb htb in_P hown hK hP 2 rfl rfl 1 (by decide) (htb _ wd_34) (fun _ h9 => h9) rfl d_P_anyBetween_30 ?_
        refine lv_iload_n hx hb d_P_anyBetween_33 rfl (lv_at hl 3 rfl) ?_
        refine ec_iald (f := py) (i := k) hx hb hK hP 4 0 rfl rfl (by omega) (by decide) d_P_anyBetween_34 ?_
        refine ec_vSi (C := "ExactMesh$Points") (ci := 0) (q := (R_P, T_P, 3)) (q0 := 2) (As := [.int (nI i), .int (nI j), .int (px k), .int (py k)]) (rest := []) ⟨hx, hb, hml, hown, htb⟩ (c_P_isBetween l dC dI a cI cZ cJ pn px py ln lf lt lr sn sf st sr th hn qx qy mn mc mk mo mr rest i j (px k) (py k) g12 gN (by omega) (by omega)) kv_P_isBetween hK hP rfl rfl rfl wd_189 ⟨Nat.le_of_ble_eq_true rfl, Nat.le_of_ble_eq_true rfl⟩ ⟨rfl, rfl⟩ rfl hl.1 rfl (Nat.le_of_ble_eq_true rfl) d_P_anyBetween_35 ⟨Nat.zero_le _, Nat.zero_le _⟩ (fun r35 hr35 => ?_)
        replace hr35 : ec_isB r35 (ec_on (px i).toInt (py i).toInt (px j).toInt (py j).toInt (px k).toInt (py k).toInt) := hr35
        refine ec_if_eqB (tgt := 43) hx hb hr35 d_P_anyBetween_38 rfl (fun h38 => ?_) (fun h38 => ?_)
        · refine ec_iinc (k := 3) hx hb d_P_anyBetween_43 hl rfl (by decide) rfl (fun ls hl => ?_)
          replace hl : lv_has ls 4 [(3, .int (nI (k + 1))), (0, .ref (a 2)), (1, .int (nI i)), (2, .int (nI j))] := hl
          refine lv_goto (tgt := 2) hx hb d_P_anyBetween_46 rfl ?_
          exact ih2 _ (by omega) (k := k + 1) (ls := ls) (hl := lv_sub hl [1, 2, 3, 0] rfl) (hle := (by omega)) (hI := (lt_s hI (by first | exact fun q => q.1 h12 | exact fun q => q.2.1 h17 | exact fun q => h38 q.2.2))) (hk2 := rfl)
        · refine lv_iconst (v := nI 1) hx hb d_P_anyBetween_41 (by decide) ?_
          exact W.zret hx hb hr rfl (fun tS ht hW => ⟨_, rfl, (ec_isB.t1 ⟨k, by omega, h12, h17, h38⟩), ht⟩) (fun _ h => nomatch h) d_P_anyBetween_42

set_option maxRecDepth 100000 in
set_option maxHeartbeats 4000000 in
theorem c_P_anyInside (l : Launch) (dC : Nat → ClassId) (dI : Nat → Nat → Nat) (a : Nat → Nat) (cI cZ cJ : ClassId) (pn : Nat) (px : Nat → Int32) (py : Nat → Int32) (ln : Nat) (lf : Nat → Nat) (lt : Nat → Nat) (lr : Nat → Nat) (sn : Nat) (sf : Nat → Nat) (st : Nat → Nat) (sr : Nat → Nat) (th : Nat → Option Nat) (hn : Nat) (qx : Nat → Int32) (qy : Nat → Int32) (mn : Nat) (mc : Nat → Nat) (mk : Nat → Prop) (mo : Nat → Option Nat) (mr : Nat → Nat) (rest : va_W) (i : Nat) (j : Nat) (k : Nat) (g12 : pn ≤ 12) (gN : ∀ i, i < pn → ec_near (px i) ∧ ec_near (py i)) (hi : i < pn) (hj : j < pn) (hk : k < pn) : Met l y_P_anyInside (Cond.code y_P_anyInside b_P_anyInside 5 (some .boolean) :: ec_tbl) ({ frames := 2, cells := 0, slots := 0, locals := 51 }) (va_Pc [.ref (a 2), .int (nI i), .int (nI j), .int (nI k)] (fun U => va_P (dC, dI) vwCl (wX a cI cZ cJ pn px py ln lf lt lr sn sf st sr th hn qx qy mn mc mk mo mr ++ rest) U.heap ∧ va_K (dC, dI) vwCl (ec_tys cI cZ cJ) U)) (vp_Si (fun r : Int32 => ec_isB r (∃ v, v < pn ∧ 0 < ge_ori (ec_P px py i) (ec_P px py j) (ec_P px py v) ∧ 0 < ge_ori (ec_P px py j) (ec_P px py k) (ec_P px py v) ∧ 0 < ge_ori (ec_P px py k) (ec_P px py i) (ec_P px py v)))) 0 0 (fun _ => False) := by
  refine Met.ofW (cc := b_P_anyInside) (maxL := 5) (ret := (some .boolean)) (by decide) rfl ?_
  intro p e s m args below meth c s₁ B hml hv0
  obtain ⟨rfl, hP, hK⟩ := hv0
  have hx := B.exec
  have hb := B.bytes
  have hr := B.returns
  have hts := atoms_spec (ws := (Cond.code y_P_anyInside b_P_anyInside 5 (some .boolean) :: ec_tbl)) B.pre
  have htb : ∀ w ∈ ec_tbl, w.before _ s = true := fun w h => hts w (List.mem_cons_of_mem _ h)
  clear hts
  have hown : s.vm.findClass "ExactMesh$Points" = some m.cls := findClass_of_methodNamed B.named
  have hlocks := B.notSynchronized
  have hl := lv_entry ([.ref (a 2), .int (nI i), .int (nI j), .int (nI k)]) (n := 5) (Nat.le_of_ble_eq_true rfl)
  rw [lg_entry_eq]
  generalize (lg_sl ([.ref (a 2), .int (nI i), .int (nI j), .int (nI k)]) ++ List.replicate (5 - (lg_sl ([.ref (a 2), .int (nI i), .int (nI j), .int (nI k)])).length) Slot.unset).toArray = ls at hl ⊢
  replace hl : lv_has ls 5 [(0, .ref (a 2)), (1, .int (nI i)), (2, .int (nI j)), (3, .int (nI k))] := hl
  refine lv_iconst (v := nI 0) hx hb d_P_anyInside_0 (by decide) ?_
  refine lv_istore hx hb d_P_anyInside_1 hl (by decide) rfl (fun ls hl => ?_)
  replace hl : lv_has ls 5 [(4, .int (nI 0)), (0, .ref (a 2)), (1, .int (nI i)), (2, .int (nI j)), (3, .int (nI k))] := hl
  obtain ⟨t, e_t⟩ : ∃ z : Nat, z = 0 := ⟨_, rfl⟩
  replace hl : lv_has ls 5 [(0, .ref (a 2)), (1, .int (nI i)), (2, .int (nI j)), (3, .int (nI k)), (4, .int (nI t))] := by (try simp only [e_t]); exact lv_sub hl [1, 2, 3, 4, 0] rfl
  have hle : t ≤ pn := by omega
  have hI : ∀ v, v < t → ¬ (0 < ge_ori (ec_P px py i) (ec_P px py j) (ec_P px py v) ∧ 0 < ge_ori (ec_P px py j) (ec_P px py k) (ec_P px py v) ∧ 0 < ge_ori (ec_P px py k) (ec_P px py i) (ec_P px py v)) := by exact fun v hv => by omega
  clear e_t
  generalize hk3 : pn - t = k3
  induction k3 using Nat.strongRecOn generalizing t ls with
  | ind k3 ih3 =>
  refine lv_iload hx hb d_P_anyInside_3 (lv_at hl 4 rfl) ?_
  refine lv_aload_n hx hb d_P_anyInside_5 rfl (lv_at hl 0 rfl) ?_
  refine va_get (D := (dC, dI)) (ci := 0) (v := .int (nI pn)) (C := R_P) (T := T_P) (N := 3) hx hb htb in_P hown hK hP 2 rfl rfl 2 (by decide) (htb _ wd_37) (fun _ h9 => h9) rfl d_P_anyInside_6 ?_
  refine ec_icmp_ge (tgt := 53) hx hb d_P_anyInside_9 rfl (by omega) (by omega) (fun h9 => ?_) (fun h9 => ?_)
  · refine lv_iconst (v := nI 0) hx hb d_P_anyInside_53 (by decide) ?_
    exact W.zret hx hb hr rfl (fun tS ht hW => ⟨_, rfl, (ec_isB.f0 (fun ⟨v, hv, q⟩ => hI v (by omega) q)), ht⟩) (fun _ h => nomatch h) d_P_anyInside_54
  · refine lv_aload_n hx hb d_P_anyInside_12 rfl (lv_at hl 0 rfl) ?_
    refine lv_iload_n hx hb d_P_anyInside_13 rfl (lv_at hl 1 rfl) ?_
    refine lv_iload_n hx hb d_P_anyInside_14 rfl (lv_at hl 2 rfl) ?_
    refine lv_iload hx hb d_P_anyInside_15 (lv_at hl 4 rfl) ?_
    refine ec_vSi (C := "ExactMesh$Points") (ci := 0) (q := (R_P, T_P, 3)) (q0 := 2) (As := [.int (nI i), .int (nI j), .int (nI t)]) (rest := []) ⟨hx, hb, hml, hown, htb⟩ (c_P_sideOfLine l dC dI a cI cZ cJ pn px py ln lf lt lr sn sf st sr th hn qx qy mn mc mk mo mr rest i j t g12 gN (by omega) (by omega) (by omega)) kv_P_sideOfLine hK hP rfl rfl rfl wd_198 ⟨Nat.le_of_ble_eq_true rfl, Nat.le_of_ble_eq_true rfl⟩ ⟨rfl, rfl⟩ rfl hl.1 rfl (Nat.le_of_ble_eq_true rfl) d_P_anyInside_17 ⟨Nat.zero_le _, Nat.zero_le _⟩ (fun r17 hr17 => ?_)
    replace hr17 : r17 = ec_sgn (ge_ori (ec_P px py i) (ec_P px py j) (ec_P px py t)) := hr17
    subst hr17
    refine lv_if_le (tgt := 47) hx hb d_P_anyInside_20 rfl (fun h20 => ?_) (fun h20 => ?_)
    · refine ec_iinc (k := 4) hx hb d_P_anyInside_47 hl rfl (by decide) rfl (fun ls hl => ?_)
      replace hl : lv_has ls 5 [(4, .int (nI (t + 1))), (0, .ref (a 2)), (1, .int (nI i)), (2, .int (nI j)), (3, .int (nI k))] := hl
      refine lv_goto (tgt := 3) hx hb d_P_anyInside_50 rfl ?_
      exact ih3 _ (by omega) (t := t + 1) (ls := ls) (hl := lv_sub hl [1, 2, 3, 4, 0] rfl) (hle := (by omega)) (hI := (lt_s hI (by first | exact fun q => ec_sle h20 q.1 | exact fun q => ec_sle h31 q.2.1 | exact fun q => ec_sle h42 q.2.2))) (hk3 := rfl)
    · refine lv_aload_n hx hb d_P_anyInside_23 rfl (lv_at hl 0 rfl) ?_
      refine lv_iload_n hx hb d_P_anyInside_24 rfl (lv_at hl 2 rfl) ?_
      refine lv_iload_n hx hb d_P_anyInside_25 rfl (lv_at hl 3 rfl) ?_
      refine lv_iload hx hb d_P_anyInside_26 (lv_at hl 4 rfl) ?_
      refine ec_vSi (C := "ExactMesh$Points") (ci := 0) (q := (R_P, T_P, 3)) (q0 := 2) (As := [.int (nI j), .int (nI k), .int (nI t)]) (rest := []) ⟨hx, hb, hml, hown, htb⟩ (c_P_sideOfLine l dC dI a cI cZ cJ pn px py ln lf lt lr sn sf st sr th hn qx qy mn mc mk mo mr rest j k t g12 gN (by omega) (by omega) (by omega)) kv_P_sideOfLine hK hP rfl rfl rfl wd_198 ⟨Nat.le_of_ble_eq_true rfl, Nat.le_of_ble_eq_true rfl⟩ ⟨rfl, rfl⟩ rfl hl.1 rfl (Nat.le_of_ble_eq_true rfl) d_P_anyInside_28 ⟨Nat.zero_le _, Nat.zero_le _⟩ (fun r28 hr28 => ?_)
      replace hr28 : r28 = ec_sgn (ge_ori (ec_P px py j) (ec_P px py k) (ec_P px py t)) := hr28
      subst hr28
      refine lv_if_le (tgt := 47) hx hb d_P_anyInside_31 rfl (fun h31 => ?_) (fun h31 => ?_)
      · refine ec_iinc (k := 4) hx hb d_P_anyInside_47 hl rfl (by decide) rfl (fun ls hl => ?_)
        replace hl : lv_has ls 5 [(4, .int (nI (t + 1))), (0, .ref (a 2)), (1, .int (nI i)), (2, .int (nI j)), (3, .int (nI k))] := hl
        refine lv_goto (tgt := 3) hx hb d_P_anyInside_50 rfl ?_
        exact ih3 _ (by omega) (t := t + 1) (ls := ls) (hl := lv_sub hl [1, 2, 3, 4, 0] rfl) (hle := (by omega)) (hI := (lt_s hI (by first | exact fun q => ec_sle h20 q.1 | exact fun q => ec_sle h31 q.2.1 | exact fun q => ec_sle h42 q.2.2))) (hk3 := rfl)
      · refine lv_aload_n hx hb d_P_anyInside_34 rfl (lv_at hl 0 rfl) ?_
        refine lv_iload_n hx hb d_P_anyInside_35 rfl (lv_at hl 3 rfl) ?_
        refine lv_iload_n hx hb d_P_anyInside_36 rfl (lv_at hl 1 rfl) ?_
        refine lv_iload hx hb d_P_anyInside_37 (lv_at hl 4 rfl) ?_
        refine ec_vSi (C := "ExactMesh$Points") (ci := 0) (q := (R_P, T_P, 3)) (q0 := 2) (As := [.int (nI k), .int (nI i), .int (nI t)]) (rest := []) ⟨hx, hb, hml, hown, htb⟩ (c_P_sideOfLine l dC dI a cI cZ cJ pn px py ln lf lt lr sn sf st sr th hn qx qy mn mc mk mo mr rest k i t g12 gN (by omega) (by omega) (by omega)) kv_P_sideOfLine hK hP rfl rfl rfl wd_198 ⟨Nat.le_of_ble_eq_true rfl, Nat.le_of_ble_eq_true rfl⟩ ⟨rfl, rfl⟩ rfl hl.1 rfl (Nat.le_of_ble_eq_true rfl) d_P_anyInside_39 ⟨Nat.zero_le _, Nat.zero_le _⟩ (fun r39 hr39 => ?_)
        replace hr39 : r39 = ec_sgn (ge_ori (ec_P px py k) (ec_P px py i) (ec_P px py t)) := hr39
        subst hr39
        refine lv_if_le (tgt := 47) hx hb d_P_anyInside_42 rfl (fun h42 => ?_) (fun h42 => ?_)
        · refine ec_iinc (k := 4) hx hb d_P_anyInside_47 hl rfl (by decide) rfl (fun ls hl => ?_)
          replace hl : lv_has ls 5 [(4, .int (nI (t + 1))), (0, .ref (a 2)), (1, .int (nI i)), (2, .int (nI j)), (3, .int (nI k))] := hl
          refine lv_goto (tgt := 3) hx hb d_P_anyInside_50 rfl ?_
          exact ih3 _ (by omega) (t := t + 1) (ls := ls) (hl := lv_sub hl [1, 2, 3, 4, 0] rfl) (hle := (by omega)) (hI := (lt_s hI (by first | exact fun q => ec_sle h20 q.1 | exact fun q => ec_sle h31 q.2.1 | exact fun q => ec_sle h42 q.2.2))) (hk3 := rfl)
        · refine lv_iconst (v := nI 1) hx hb d_P_anyInside_45 (by decide) ?_
          exact W.zret hx hb hr rfl (fun tS ht hW => ⟨_, rfl, (ec_isB.t1 ⟨t, by omega, ec_sgt h20, ec_sgt h31, ec_sgt h42⟩), ht⟩) (fun _ h => nomatch h) d_P_anyInside_46

set_option maxRecDepth 100000 in
set_option maxHeartbeats 4000000 in
theorem c_P_areCrossing (l : Launch) (dC : Nat → ClassId) (dI : Nat → Nat → Nat) (a : Nat → Nat) (cI cZ cJ : ClassId) (pn : Nat) (px : Nat → Int32) (py : Nat → Int32) (ln : Nat) (lf : Nat → Nat) (lt : Nat → Nat) (lr : Nat → Nat) (sn : Nat) (sf : Nat → Nat) (st : Nat → Nat) (sr : Nat → Nat) (th : Nat → Option Nat) (hn : Nat) (qx : Nat → Int32) (qy : Nat → Int32) (mn : Nat) (mc : Nat → Nat) (mk : Nat → Prop) (mo : Nat → Option Nat) (mr : Nat → Nat) (rest : va_W) (i : Nat) (j : Nat) (k : Nat) (i4 : Nat) (g12 : pn ≤ 12) (gN : ∀ i, i < pn → ec_near (px i) ∧ ec_near (py i)) (hi : i < pn) (hj : j < pn) (hk : k < pn) (hi4 : i4 < pn) : Met l y_P_areCrossing (Cond.code y_P_areCrossing b_P_areCrossing 5 (some .boolean) :: ec_tbl) ({ frames := 2, cells := 0, slots := 0, locals := 51 }) (va_Pc [.ref (a 2), .int (nI i), .int (nI j), .int (nI k), .int (nI i4)] (fun U => va_P (dC, dI) vwCl (wX a cI cZ cJ pn px py ln lf lt lr sn sf st sr th hn qx qy mn mc mk mo mr ++ rest) U.heap ∧ va_K (dC, dI) vwCl (ec_tys cI cZ cJ) U)) (vp_Si (fun r : Int32 => ec_isB r (ge_Cr (ec_P px py i) (ec_P px py j) (ec_P px py k) (ec_P px py i4)))) 0 0 (fun _ => False) := by
  refine Met.ofW (cc := b_P_areCrossing) (maxL := 5) (ret := (some .boolean)) (by decide) rfl ?_
  intro p e s m args below meth c s₁ B hml hv0
  obtain ⟨rfl, hP, hK⟩ := hv0
  have hx := B.exec
  have hb := B.bytes
  have hr := B.returns
  have hts := atoms_spec (ws := (Cond.code y_P_areCrossing b_P_areCrossing 5 (some .boolean) :: ec_tbl)) B.pre
  have htb : ∀ w ∈ ec_tbl, w.before _ s = true := fun w h => hts w (List.mem_cons_of_mem _ h)
  clear hts
  have hown : s.vm.findClass "ExactMesh$Points" = some m.cls := findClass_of_methodNamed B.named
  have hlocks := B.notSynchronized
  have hl := lv_entry ([.ref (a 2), .int (nI i), .int (nI j), .int (nI k), .int (nI i4)]) (n := 5) (Nat.le_of_ble_eq_true rfl)
  rw [lg_entry_eq]
  generalize (lg_sl ([.ref (a 2), .int (nI i), .int (nI j), .int (nI k), .int (nI i4)]) ++ List.replicate (5 - (lg_sl ([.ref (a 2), .int (nI i), .int (nI j), .int (nI k), .int (nI i4)])).length) Slot.unset).toArray = ls at hl ⊢
  replace hl : lv_has ls 5 [(0, .ref (a 2)), (1, .int (nI i)), (2, .int (nI j)), (3, .int (nI k)), (4, .int (nI i4))] := hl
  refine lv_aload_n hx hb d_P_areCrossing_0 rfl (lv_at hl 0 rfl) ?_
  refine lv_iload_n hx hb d_P_areCrossing_1 rfl (lv_at hl 1 rfl) ?_
  refine lv_iload_n hx hb d_P_areCrossing_2 rfl (lv_at hl 2 rfl) ?_
  refine lv_iload_n hx hb d_P_areCrossing_3 rfl (lv_at hl 3 rfl) ?_
  refine ec_vSi (C := "ExactMesh$Points") (ci := 0) (q := (R_P, T_P, 3)) (q0 := 2) (As := [.int (nI i), .int (nI j), .int (nI k)]) (rest := []) ⟨hx, hb, hml, hown, htb⟩ (c_P_sideOfLine l dC dI a cI cZ cJ pn px py ln lf lt lr sn sf st sr th hn qx qy mn mc mk mo mr rest i j k g12 gN (by omega) (by omega) (by omega)) kv_P_sideOfLine hK hP rfl rfl rfl wd_198 ⟨Nat.le_of_ble_eq_true rfl, Nat.le_of_ble_eq_true rfl⟩ ⟨rfl, rfl⟩ rfl hl.1 rfl (Nat.le_of_ble_eq_true rfl) d_P_areCrossing_4 ⟨Nat.zero_le _, Nat.zero_le _⟩ (fun r4 hr4 => ?_)
  replace hr4 : r4 = ec_sgn (ge_ori (ec_P px py i) (ec_P px py j) (ec_P px py k)) := hr4
  subst hr4
  refine lv_aload_n hx hb d_P_areCrossing_7 rfl (lv_at hl 0 rfl) ?_
  refine lv_iload_n hx hb d_P_areCrossing_8 rfl (lv_at hl 1 rfl) ?_
  refine lv_iload_n hx hb d_P_areCrossing_9 rfl (lv_at hl 2 rfl) ?_
  refine lv_iload hx hb d_P_areCrossing_10 (lv_at hl 4 rfl) ?_
  refine ec_vSi (C := "ExactMesh$Points") (ci := 0) (q := (R_P, T_P, 3)) (q0 := 2) (As := [.int (nI i), .int (nI j), .int (nI i4)]) (rest := [.int (ec_sgn (ge_ori (ec_P px py i) (ec_P px py j) (ec_P px py k)))]) ⟨hx, hb, hml, hown, htb⟩ (c_P_sideOfLine l dC dI a cI cZ cJ pn px py ln lf lt lr sn sf st sr th hn qx qy mn mc mk mo mr rest i j i4 g12 gN (by omega) (by omega) (by omega)) kv_P_sideOfLine hK hP rfl rfl rfl wd_198 ⟨Nat.le_of_ble_eq_true rfl, Nat.le_of_ble_eq_true rfl⟩ ⟨rfl, rfl⟩ rfl hl.1 rfl (Nat.le_of_ble_eq_true rfl) d_P_areCrossing_12 ⟨Nat.zero_le _, Nat.zero_le _⟩ (fun r12 hr12 => ?_)
  replace hr12 : r12 = ec_sgn (ge_ori (ec_P px py i) (ec_P px py j) (ec_P px py i4)) := hr12
  subst hr12
  refine lv_imul hx hb d_P_areCrossing_15 ?_
  refine lv_if_ge (tgt := 43) hx hb d_P_areCrossing_16 rfl (fun h16 => ?_) (fun h16 => ?_)
  · refine lv_iconst (v := nI 0) hx hb d_P_areCrossing_43 (by decide) ?_
    exact W.zret hx hb hr rfl (fun tS ht hW => ⟨_, rfl, (ec_isB.f0 (fun q => ec_mul_ge h16 q.1)), ht⟩) (fun _ h => nomatch h) d_P_areCrossing_44
  · refine lv_aload_n hx hb d_P_areCrossing_19 rfl (lv_at hl 0 rfl) ?_
    refine lv_iload_n hx hb d_P_areCrossing_20 rfl (lv_at hl 3 rfl) ?_
    refine lv_iload hx hb d_P_areCrossing_21 (lv_at hl 4 rfl) ?_
    refine lv_iload_n hx hb d_P_areCrossing_23 rfl (lv_at hl 1 rfl) ?_
    refine ec_vSi (C := "ExactMesh$Points") (ci := 0) (q := (R_P, T_P, 3)) (q0 := 2) (As := [.int (nI k), .int (nI i4), .int (nI i)]) (rest := []) ⟨hx, hb, hml, hown, htb⟩ (c_P_sideOfLine l dC dI a cI cZ cJ pn px py ln lf lt lr sn sf st sr th hn qx qy mn mc mk mo mr rest k i4 i g12 gN (by omega) (by omega) (by omega)) kv_P_sideOfLine hK hP rfl rfl rfl wd_198 ⟨Nat.le_of_ble_eq_true rfl, Nat.le_of_ble_eq_true rfl⟩ ⟨rfl, rfl⟩ rfl hl.1 rfl (Nat.le_of_ble_eq_true rfl) d_P_areCrossing_24 ⟨Nat.zero_le _, Nat.zero_le _⟩ (fun r24 hr24 => ?_)
    replace hr24 : r24 = ec_sgn (ge_ori (ec_P px py k) (ec_P px py i4) (ec_P px py i)) := hr24
    subst hr24
    refine lv_aload_n hx hb d_P_areCrossing_27 rfl (lv_at hl 0 rfl) ?_
    refine lv_iload_n hx hb d_P_areCrossing_28 rfl (lv_at hl 3 rfl) ?_
    refine lv_iload hx hb d_P_areCrossing_29 (lv_at hl 4 rfl) ?_
    refine lv_iload_n hx hb d_P_areCrossing_31 rfl (lv_at hl 2 rfl) ?_
    refine ec_vSi (C := "ExactMesh$Points") (ci := 0) (q := (R_P, T_P, 3)) (q0 := 2) (As := [.int (nI k), .int (nI i4), .int (nI j)]) (rest := [.int (ec_sgn (ge_ori (ec_P px py k) (ec_P px py i4) (ec_P px py i)))]) ⟨hx, hb, hml, hown, htb⟩ (c_P_sideOfLine l dC dI a cI cZ cJ pn px py ln lf lt lr sn sf st sr th hn qx qy mn mc mk mo mr rest k i4 j g12 gN (by omega) (by omega) (by omega)) kv_P_sideOfLine hK hP rfl rfl rfl wd_198 ⟨Nat.le_of_ble_eq_true rfl, Nat.le_of_ble_eq_true rfl⟩ ⟨rfl, rfl⟩ rfl hl.1 rfl (Nat.le_of_ble_eq_true rfl) d_P_areCrossing_32 ⟨Nat.zero_le _, Nat.zero_le _⟩ (fun r32 hr32 => ?_)
    replace hr32 : r32 = ec_sgn (ge_ori (ec_P px py k) (ec_P px py i4) (ec_P px py j)) := hr32
    subst hr32
    refine lv_imul hx hb d_P_areCrossing_35 ?_
    refine lv_if_ge (tgt := 43) hx hb d_P_areCrossing_36 rfl (fun h36 => ?_) (fun h36 => ?_)
    · refine lv_iconst (v := nI 0) hx hb d_P_areCrossing_43 (by decide) ?_
      exact W.zret hx hb hr rfl (fun tS ht hW => ⟨_, rfl, (ec_isB.f0 (fun q => ec_mul_ge h36 q.2)), ht⟩) (fun _ h => nomatch h) d_P_areCrossing_44
    · refine lv_iconst (v := nI 1) hx hb d_P_areCrossing_39 (by decide) ?_
      refine lv_goto (tgt := 44) hx hb d_P_areCrossing_40 rfl ?_
      exact W.zret hx hb hr rfl (fun tS ht hW => ⟨_, rfl, (ec_isB.t1 ⟨ec_mul_lt h16, ec_mul_lt h36⟩), ht⟩) (fun _ h => nomatch h) d_P_areCrossing_44

set_option maxRecDepth 100000 in
set_option maxHeartbeats 4000000 in
theorem c_P_add (l : Launch) (dC : Nat → ClassId) (dI : Nat → Nat → Nat) (a : Nat → Nat) (cI cZ cJ : ClassId) (pn : Nat) (px : Nat → Int32) (py : Nat → Int32) (ln : Nat) (lf : Nat → Nat) (lt : Nat → Nat) (lr : Nat → Nat) (sn : Nat) (sf : Nat → Nat) (st : Nat → Nat) (sr : Nat → Nat) (th : Nat → Option Nat) (hn : Nat) (qx : Nat → Int32) (qy : Nat → Int32) (mn : Nat) (mc : Nat → Nat) (mk : Nat → Prop) (mo : Nat → Option Nat) (mr : Nat → Nat) (rest : va_W) (vx : Int32) (vy : Int32) (g12 : pn ≤ 12) (hroom : pn < 12) (A : Nat → Prop) (hD : va_D A (wX a cI cZ cJ pn px py ln lf lt lr sn sf st sr th hn qx qy mn mc mk mo mr ++ rest)) : Met l y_P_add (Cond.code y_P_add b_P_add 3 none :: ec_tbl) ({ frames := 1, cells := 0, slots := 0, locals := 20 }) (va_Pc [.ref (a 2), .int vx, .int vy] (fun U => va_P (dC, dI) vwCl (wX a cI cZ cJ pn px py ln lf lt lr sn sf st sr th hn qx qy mn mc mk mo mr ++ rest) U.heap ∧ va_K (dC, dI) vwCl (ec_tys cI cZ cJ) U)) (va_Qv (fun (u : Unit) => u = ()) (fun u t => va_P (dC, dI) vwCl (wX a cI cZ cJ (pn + 1) (upd px pn vx) (upd py pn vy) ln lf lt lr sn sf st sr th hn qx qy mn mc mk mo mr ++ rest) t.heap) A) 0 0 A := by
  refine Met.ofW (cc := b_P_add) (maxL := 3) (ret := none) (by decide) rfl ?_
  intro p e s m args below meth c s₁ B hml hv0
  obtain ⟨rfl, hP, hK⟩ := hv0
  have hx := B.exec
  have hb := B.bytes
  have hr := B.returns
  have hts := atoms_spec (ws := (Cond.code y_P_add b_P_add 3 none :: ec_tbl)) B.pre
  have htb : ∀ w ∈ ec_tbl, w.before _ s = true := fun w h => hts w (List.mem_cons_of_mem _ h)
  clear hts
  have hown : s.vm.findClass "ExactMesh$Points" = some m.cls := findClass_of_methodNamed B.named
  have hlocks := B.notSynchronized
  have hl := lv_entry ([.ref (a 2), .int vx, .int vy]) (n := 3) (Nat.le_of_ble_eq_true rfl)
  rw [lg_entry_eq]
  generalize (lg_sl ([.ref (a 2), .int vx, .int vy]) ++ List.replicate (3 - (lg_sl ([.ref (a 2), .int vx, .int vy])).length) Slot.unset).toArray = ls at hl ⊢
  replace hl : lv_has ls 3 [(0, .ref (a 2)), (1, .int vx), (2, .int vy)] := hl
  refine ec_start (fun H locs hH hlocs => ?_)
  replace hP : va_P (dC, dI) vwCl (wX a cI cZ cJ pn px py ln lf lt lr sn sf st sr th hn qx qy mn mc mk mo mr ++ rest) H := by rw [hH]; exact hP
  have hS : va_S A s.heap H locs := by rw [hH, hlocs]; exact va_S.rf
  clear hH hlocs
  refine lv_aload_n hx hb d_P_add_0 rfl (lv_at hl 0 rfl) ?_
  refine ec_vSi (C := "ExactMesh$Points") (ci := 0) (q := (R_P, T_P, 3)) (q0 := 2) (As := []) (rest := []) ⟨hx, hb, hml, hown, htb⟩ (c_P_isFull l dC dI a cI cZ cJ pn px py ln lf lt lr sn sf st sr th hn qx qy mn mc mk mo mr rest g12) kv_P_isFull hK hP rfl rfl rfl wd_168 ⟨Nat.le_of_ble_eq_true rfl, Nat.le_of_ble_eq_true rfl⟩ ⟨rfl, rfl⟩ rfl hl.1 rfl (Nat.le_of_ble_eq_true rfl) d_P_add_1 ⟨Nat.zero_le _, Nat.zero_le _⟩ (fun r1 hr1 => ?_)
  replace hr1 : ec_isB r1 (12 ≤ pn) := hr1
  refine ec_if_neB (tgt := 37) hx hb hr1 d_P_add_4 rfl (fun h4 => ?_) (fun h4 => ?_)
  · exact absurd h4 (by omega)
  · refine lv_aload_n hx hb d_P_add_7 rfl (lv_at hl 0 rfl) ?_
    refine va_get (D := (dC, dI)) (ci := 0) (v := .ref (a 3)) (C := R_P) (T := T_P) (N := 3) hx hb htb in_P hown hK hP 2 rfl rfl 0 (by decide) (htb _ wd_31) (fun _ h9 => h9) rfl d_P_add_8 ?_
    refine lv_aload_n hx hb d_P_add_11 rfl (lv_at hl 0 rfl) ?_
    refine va_get (D := (dC, dI)) (ci := 0) (v := .int (nI pn)) (C := R_P) (T := T_P) (N := 3) hx hb htb in_P hown hK hP 2 rfl rfl 2 (by decide) (htb _ wd_37) (fun _ h9 => h9) rfl d_P_add_12 ?_
    refine lv_iload_n hx hb d_P_add_15 rfl (lv_at hl 1 rfl) ?_
    refine ec_iast (f := px) (i := pn) hx hb hK hP hD hS 3 0 rfl rfl (by omega) (by decide) d_P_add_16 (fun H locs hP hD hS => ?_)
    replace hP : va_P (dC, dI) vwCl (wX a cI cZ cJ pn (upd px pn vx) py ln lf lt lr sn sf st sr th hn qx qy mn mc mk mo mr ++ rest) H := hP
    replace hD : va_D A (wX a cI cZ cJ pn (upd px pn vx) py ln lf lt lr sn sf st sr th hn qx qy mn mc mk mo mr ++ rest) := hD
    refine lv_aload_n hx hb d_P_add_17 rfl (lv_at hl 0 rfl) ?_
    refine va_get (D := (dC, dI)) (ci := 0) (v := .ref (a 4)) (C := R_P) (T := T_P) (N := 3) hx hb htb in_P hown hK hP 2 rfl rfl 1 (by decide) (htb _ wd_34) (fun _ h9 => h9) rfl d_P_add_18 ?_
    refine lv_aload_n hx hb d_P_add_21 rfl (lv_at hl 0 rfl) ?_
    refine va_get (D := (dC, dI)) (ci := 0) (v := .int (nI pn)) (C := R_P) (T := T_P) (N := 3) hx hb htb in_P hown hK hP 2 rfl rfl 2 (by decide) (htb _ wd_37) (fun _ h9 => h9) rfl d_P_add_22 ?_
    refine lv_iload_n hx hb d_P_add_25 rfl (lv_at hl 2 rfl) ?_
    refine ec_iast (f := py) (i := pn) hx hb hK hP hD hS 4 0 rfl rfl (by omega) (by decide) d_P_add_26 (fun H locs hP hD hS => ?_)
    replace hP : va_P (dC, dI) vwCl (wX a cI cZ cJ pn (upd px pn vx) (upd py pn vy) ln lf lt lr sn sf st sr th hn qx qy mn mc mk mo mr ++ rest) H := hP
    replace hD : va_D A (wX a cI cZ cJ pn (upd px pn vx) (upd py pn vy) ln lf lt lr sn sf st sr th hn qx qy mn mc mk mo mr ++ rest) := hD
    refine lv_aload_n hx hb d_P_add_27 rfl (lv_at hl 0 rfl) ?_
    refine lv_dup hx hb d_P_add_28 rfl ?_
    refine va_get (D := (dC, dI)) (ci := 0) (v := .int (nI pn)) (C := R_P) (T := T_P) (N := 3) hx hb htb in_P hown hK hP 2 rfl rfl 2 (by decide) (htb _ wd_37) (fun _ h9 => h9) rfl d_P_add_29 ?_
    refine lv_iconst (v := nI 1) hx hb d_P_add_32 (by decide) ?_
    refine ec_iadd hx hb d_P_add_33 ?_
    refine va_put (D := (dC, dI)) (ci := 0) (v := .int (nI (pn + 1))) (ty := .int) (C := R_P) (T := T_P) (N := 3) hx hb htb in_P t_P ty_P nm_P hown hK hP hD hS 2 rfl rfl 2 (by decide) (htb _ wd_37) (fun _ h9 => h9) rfl (by decide +kernel) rfl rfl (Nat.le_of_ble_eq_true rfl) d_P_add_34 (fun H locs hP hD hS => ?_)
    replace hP : va_P (dC, dI) vwCl (wX a cI cZ cJ (pn + 1) (upd px pn vx) (upd py pn vy) ln lf lt lr sn sf st sr th hn qx qy mn mc mk mo mr ++ rest) H := hP
    replace hD : va_D A (wX a cI cZ cJ (pn + 1) (upd px pn vx) (upd py pn vy) ln lf lt lr sn sf st sr th hn qx qy mn mc mk mo mr ++ rest) := hD
    exact W.vret hx hb hr (fun tS ht hW => ⟨⟨(), rfl, rfl, by show va_P _ _ _ tS.heap; rw [ht]; exact hP⟩, hS.F ht⟩) hS.2.2 d_P_add_37

set_option maxRecDepth 100000 in
set_option maxHeartbeats 4000000 in
theorem c_H_add (l : Launch) (dC : Nat → ClassId) (dI : Nat → Nat → Nat) (a : Nat → Nat) (cI cZ cJ : ClassId) (pn : Nat) (px : Nat → Int32) (py : Nat → Int32) (ln : Nat) (lf : Nat → Nat) (lt : Nat → Nat) (lr : Nat → Nat) (sn : Nat) (sf : Nat → Nat) (st : Nat → Nat) (sr : Nat → Nat) (th : Nat → Option Nat) (hn : Nat) (qx : Nat → Int32) (qy : Nat → Int32) (mn : Nat) (mc : Nat → Nat) (mk : Nat → Prop) (mo : Nat → Option Nat) (mr : Nat → Nat) (rest : va_W) (vx : Int32) (vy : Int32) (g3 : hn ≤ 3) (hroom : hn < 3) (A : Nat → Prop) (hD : va_D A (wX a cI cZ cJ pn px py ln lf lt lr sn sf st sr th hn qx qy mn mc mk mo mr ++ rest)) : Met l y_P_add (Cond.code y_P_add b_P_add 3 none :: ec_tbl) ({ frames := 1, cells := 0, slots := 0, locals := 20 }) (va_Pc [.ref (a 14), .int vx, .int vy] (fun U => va_P (dC, dI) vwCl (wX a cI cZ cJ pn px py ln lf lt lr sn sf st sr th hn qx qy mn mc mk mo mr ++ rest) U.heap ∧ va_K (dC, dI) vwCl (ec_tys cI cZ cJ) U)) (va_Qv (fun (u : Unit) => u = ()) (fun u t => va_P (dC, dI) vwCl (wX a cI cZ cJ pn px py ln lf lt lr sn sf st sr th (hn + 1) (upd qx hn vx) (upd qy hn vy) mn mc mk mo mr ++ rest) t.heap) A) 0 0 A := by
  refine Met.ofW (cc := b_P_add) (maxL := 3) (ret := none) (by decide) rfl ?_
  intro p e s m args below meth c s₁ B hml hv0
  obtain ⟨rfl, hP, hK⟩ := hv0
  have hx := B.exec
  have hb := B.bytes
  have hr := B.returns
  have hts := atoms_spec (ws := (Cond.code y_P_add b_P_add 3 none :: ec_tbl)) B.pre
  have htb : ∀ w ∈ ec_tbl, w.before _ s = true := fun w h => hts w (List.mem_cons_of_mem _ h)
  clear hts
  have hown : s.vm.findClass "ExactMesh$Points" = some m.cls := findClass_of_methodNamed B.named
  have hlocks := B.notSynchronized
  have hl := lv_entry ([.ref (a 14), .int vx, .int vy]) (n := 3) (Nat.le_of_ble_eq_true rfl)
  rw [lg_entry_eq]
  generalize (lg_sl ([.ref (a 14), .int vx, .int vy]) ++ List.replicate (3 - (lg_sl ([.ref (a 14), .int vx, .int vy])).length) Slot.unset).toArray = ls at hl ⊢
  replace hl : lv_has ls 3 [(0, .ref (a 14)), (1, .int vx), (2, .int vy)] := hl
  refine ec_start (fun H locs hH hlocs => ?_)
  replace hP : va_P (dC, dI) vwCl (wX a cI cZ cJ pn px py ln lf lt lr sn sf st sr th hn qx qy mn mc mk mo mr ++ rest) H := by rw [hH]; exact hP
  have hS : va_S A s.heap H locs := by rw [hH, hlocs]; exact va_S.rf
  clear hH hlocs
  refine lv_aload_n hx hb d_P_add_0 rfl (lv_at hl 0 rfl) ?_
  refine ec_vSi (C := "ExactMesh$Points") (ci := 0) (q := (R_P, T_P, 3)) (q0 := 14) (As := []) (rest := []) ⟨hx, hb, hml, hown, htb⟩ (c_H_isFull l dC dI a cI cZ cJ pn px py ln lf lt lr sn sf st sr th hn qx qy mn mc mk mo mr rest g3) kv_P_isFull hK hP rfl rfl rfl wd_168 ⟨Nat.le_of_ble_eq_true rfl, Nat.le_of_ble_eq_true rfl⟩ ⟨rfl, rfl⟩ rfl hl.1 rfl (Nat.le_of_ble_eq_true rfl) d_P_add_1 ⟨Nat.zero_le _, Nat.zero_le _⟩ (fun r1 hr1 => ?_)
  replace hr1 : ec_isB r1 (3 ≤ hn) := hr1
  refine ec_if_neB (tgt := 37) hx hb hr1 d_P_add_4 rfl (fun h4 => ?_) (fun h4 => ?_)
  · exact absurd h4 (by omega)
  · refine lv_aload_n hx hb d_P_add_7 rfl (lv_at hl 0 rfl) ?_
    refine va_get (D := (dC, dI)) (ci := 0) (v := .ref (a 15)) (C := R_P) (T := T_P) (N := 3) hx hb htb in_P hown hK hP 14 rfl rfl 0 (by decide) (htb _ wd_31) (fun _ h9 => h9) rfl d_P_add_8 ?_
    refine lv_aload_n hx hb d_P_add_11 rfl (lv_at hl 0 rfl) ?_
    refine va_get (D := (dC, dI)) (ci := 0) (v := .int (nI hn)) (C := R_P) (T := T_P) (N := 3) hx hb htb in_P hown hK hP 14 rfl rfl 2 (by decide) (htb _ wd_37) (fun _ h9 => h9) rfl d_P_add_12 ?_
    refine lv_iload_n hx hb d_P_add_15 rfl (lv_at hl 1 rfl) ?_
    refine ec_iast (f := qx) (i := hn) hx hb hK hP hD hS 15 0 rfl rfl (by omega) (by decide) d_P_add_16 (fun H locs hP hD hS => ?_)
    replace hP : va_P (dC, dI) vwCl (wX a cI cZ cJ pn px py ln lf lt lr sn sf st sr th hn (upd qx hn vx) qy mn mc mk mo mr ++ rest) H := hP
    replace hD : va_D A (wX a cI cZ cJ pn px py ln lf lt lr sn sf st sr th hn (upd qx hn vx) qy mn mc mk mo mr ++ rest) := hD
    refine lv_aload_n hx hb d_P_add_17 rfl (lv_at hl 0 rfl) ?_
    refine va_get (D := (dC, dI)) (ci := 0) (v := .ref (a 16)) (C := R_P) (T := T_P) (N := 3) hx hb htb in_P hown hK hP 14 rfl rfl 1 (by decide) (htb _ wd_34) (fun _ h9 => h9) rfl d_P_add_18 ?_
    refine lv_aload_n hx hb d_P_add_21 rfl (lv_at hl 0 rfl) ?_
    refine va_get (D := (dC, dI)) (ci := 0) (v := .int (nI hn)) (C := R_P) (T := T_P) (N := 3) hx hb htb in_P hown hK hP 14 rfl rfl 2 (by decide) (htb _ wd_37) (fun _ h9 => h9) rfl d_P_add_22 ?_
    refine lv_iload_n hx hb d_P_add_25 rfl (lv_at hl 2 rfl) ?_
    refine ec_iast (f := qy) (i := hn) hx hb hK hP hD hS 16 0 rfl rfl (by omega) (by decide) d_P_add_26 (fun H locs hP hD hS => ?_)
    replace hP : va_P (dC, dI) vwCl (wX a cI cZ cJ pn px py ln lf lt lr sn sf st sr th hn (upd qx hn vx) (upd qy hn vy) mn mc mk mo mr ++ rest) H := hP
    replace hD : va_D A (wX a cI cZ cJ pn px py ln lf lt lr sn sf st sr th hn (upd qx hn vx) (upd qy hn vy) mn mc mk mo mr ++ rest) := hD
    refine lv_aload_n hx hb d_P_add_27 rfl (lv_at hl 0 rfl) ?_
    refine lv_dup hx hb d_P_add_28 rfl ?_
    refine va_get (D := (dC, dI)) (ci := 0) (v := .int (nI hn)) (C := R_P) (T := T_P) (N := 3) hx hb htb in_P hown hK hP 14 rfl rfl 2 (by decide) (htb _ wd_37) (fun _ h9 => h9) rfl d_P_add_29 ?_
    refine lv_iconst (v := nI 1) hx hb d_P_add_32 (by decide) ?_
    refine ec_iadd hx hb d_P_add_33 ?_
    refine va_put (D := (dC, dI)) (ci := 0) (v := .int (nI (hn + 1))) (ty := .int) (C := R_P) (T := T_P) (N := 3) hx hb htb in_P t_P ty_P nm_P hown hK hP hD hS 14 rfl rfl 2 (by decide) (htb _ wd_37) (fun _ h9 => h9) rfl (by decide +kernel) rfl rfl (Nat.le_of_ble_eq_true rfl) d_P_add_34 (fun H locs hP hD hS => ?_)
    replace hP : va_P (dC, dI) vwCl (wX a cI cZ cJ pn px py ln lf lt lr sn sf st sr th (hn + 1) (upd qx hn vx) (upd qy hn vy) mn mc mk mo mr ++ rest) H := hP
    replace hD : va_D A (wX a cI cZ cJ pn px py ln lf lt lr sn sf st sr th (hn + 1) (upd qx hn vx) (upd qy hn vy) mn mc mk mo mr ++ rest) := hD
    exact W.vret hx hb hr (fun tS ht hW => ⟨⟨(), rfl, rfl, by show va_P _ _ _ tS.heap; rw [ht]; exact hP⟩, hS.F ht⟩) hS.2.2 d_P_add_37
