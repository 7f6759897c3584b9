set_option maxRecDepth 100000 in
set_option maxHeartbeats 4000000 in
theorem c_M_hasSide (l : Launch) (dC : Nat → ClassId) (dI : Nat → Nat → Nat) (a : Nat → Nat) (cI cZ cJ : ClassId) (pn : Nat) (px : Nat → Int32) (py : Nat → Int32) (ln : Nat) (lf : Nat → Nat) (lt : Nat → Nat) (lr : Nat → Nat) (sn : Nat) (sf : Nat → Nat) (st : Nat → Nat) (sr : Nat → Nat) (th : Nat → Option Nat) (hn : Nat) (qx : Nat → Int32) (qy : Nat → Int32) (mn : Nat) (mc : Nat → Nat) (mk : Nat → Prop) (mo : Nat → Option Nat) (mr : Nat → Nat) (rest : va_W) (v : Int32) (w : Int32) (gmn : mn ≤ 19) : Met l y_M_hasSide (Cond.code y_M_hasSide b_M_hasSide 3 (some .boolean) :: ec_tbl) ({ frames := 0, cells := 0, slots := 0, locals := 0 }) (va_Pc [.ref (a 17), .int v, .int w] (fun U => va_P (dC, dI) vwCl (wX a cI cZ cJ pn px py ln lf lt lr sn sf st sr th hn qx qy mn mc mk mo mr ++ rest) U.heap ∧ va_K (dC, dI) vwCl (ec_tys cI cZ cJ) U)) (vp_Si (fun r : Int32 => ec_isB r (0 ≤ v.toInt ∧ v.toInt < mn ∧ 0 ≤ w.toInt ∧ w.toInt ≤ 2))) 0 0 (fun _ => False) := by
  refine Met.ofW (cc := b_M_hasSide) (maxL := 3) (ret := (some .boolean)) (by decide) rfl ?_
  intro p e s m args below meth c s₁ B hml hv0
  obtain ⟨rfl, hP, hK⟩ := hv0
  have hx := B.exec
  have hb := B.bytes
  have hr := B.returns
  have hts := atoms_spec (ws := (Cond.code y_M_hasSide b_M_hasSide 3 (some .boolean) :: ec_tbl)) B.pre
  have htb : ∀ w ∈ ec_tbl, w.before _ s = true := fun w h => hts w (List.mem_cons_of_mem _ h)
  clear hts
  have hown : s.vm.findClass "ExactMesh$CarvedMesh" = some m.cls := findClass_of_methodNamed B.named
  have hlocks := B.notSynchronized
  have hl := lv_entry ([.ref (a 17), .int v, .int w]) (n := 3) (Nat.le_of_ble_eq_true rfl)
  rw [lg_entry_eq]
  generalize (lg_sl ([.ref (a 17), .int v, .int w]) ++ List.replicate (3 - (lg_sl ([.ref (a 17), .int v, .int w])).length) Slot.unset).toArray = ls at hl ⊢
  replace hl : lv_has ls 3 [(0, .ref (a 17)), (1, .int v), (2, .int w)] := hl
  refine lv_iload_n hx hb d_M_hasSide_0 rfl (lv_at hl 1 rfl) ?_
  refine lv_if_lt (tgt := 25) hx hb d_M_hasSide_1 rfl (fun h1 => ?_) (fun h1 => ?_)
  · refine lv_iconst (v := nI 0) hx hb d_M_hasSide_25 (by decide) ?_
    exact W.zret hx hb hr rfl (fun tS ht hW => ⟨_, rfl, (ec_isB.f0 (fun q => by have h := ec_lt32 h1; omega)), ht⟩) (fun _ h => nomatch h) d_M_hasSide_26
  · refine lv_iload_n hx hb d_M_hasSide_4 rfl (lv_at hl 1 rfl) ?_
    refine lv_aload_n hx hb d_M_hasSide_5 rfl (lv_at hl 0 rfl) ?_
    refine va_get (D := (dC, dI)) (ci := 3) (v := .int (nI mn)) (C := R_M) (T := T_M) (N := 5) hx hb htb in_M hown hK hP 17 rfl rfl 4 (by decide) (htb _ wd_99) (fun _ h9 => h9) rfl d_M_hasSide_6 ?_
    refine lv_icmp_ge (tgt := 25) hx hb d_M_hasSide_9 rfl (fun h9 => ?_) (fun h9 => ?_)
    · refine lv_iconst (v := nI 0) hx hb d_M_hasSide_25 (by decide) ?_
      exact W.zret hx hb hr rfl (fun tS ht hW => ⟨_, rfl, (ec_isB.f0 (fun q => by have h := ec_le32 (by omega) h9; omega)), ht⟩) (fun _ h => nomatch h) d_M_hasSide_26
    · refine lv_iload_n hx hb d_M_hasSide_12 rfl (lv_at hl 2 rfl) ?_
      refine lv_if_lt (tgt := 25) hx hb d_M_hasSide_13 rfl (fun h13 => ?_) (fun h13 => ?_)
      · refine lv_iconst (v := nI 0) hx hb d_M_hasSide_25 (by decide) ?_
        exact W.zret hx hb hr rfl (fun tS ht hW => ⟨_, rfl, (ec_isB.f0 (fun q => by have h := ec_lt32 h13; omega)), ht⟩) (fun _ h => nomatch h) d_M_hasSide_26
      · refine lv_iload_n hx hb d_M_hasSide_16 rfl (lv_at hl 2 rfl) ?_
        refine lv_iconst (v := nI 2) hx hb d_M_hasSide_17 (by decide) ?_
        refine lv_icmp_gt (tgt := 25) hx hb d_M_hasSide_18 rfl (fun h18 => ?_) (fun h18 => ?_)
        · refine lv_iconst (v := nI 0) hx hb d_M_hasSide_25 (by decide) ?_
          exact W.zret hx hb hr rfl (fun tS ht hW => ⟨_, rfl, (ec_isB.f0 (fun q => by have h := ec_gt32 (n := 2) (by omega) h18; omega)), ht⟩) (fun _ h => nomatch h) d_M_hasSide_26
        · refine lv_iconst (v := nI 1) hx hb d_M_hasSide_21 (by decide) ?_
          refine lv_goto (tgt := 26) hx hb d_M_hasSide_22 rfl ?_
          exact W.zret hx hb hr rfl (fun tS ht hW => ⟨_, rfl, (ec_isB.t1 (by have h1 := ec_nlt32 h1; have h2 := ec_nle32 (by omega) h9; have h3 := ec_nlt32 h13; have h4 := ec_ngt32 (n := 2) (by omega) h18; omega)), ht⟩) (fun _ h => nomatch h) d_M_hasSide_26

set_option maxRecDepth 100000 in
set_option maxHeartbeats 4000000 in
theorem c_M_cornerOf (l : Launch) (dC : Nat → ClassId) (dI : Nat → Nat → Nat) (a : Nat → Nat) (cI cZ cJ : ClassId) (pn : Nat) (px : Nat → Int32) (py : Nat → Int32) (ln : Nat) (lf : Nat → Nat) (lt : Nat → Nat) (lr : Nat → Nat) (sn : Nat) (sf : Nat → Nat) (st : Nat → Nat) (sr : Nat → Nat) (th : Nat → Option Nat) (hn : Nat) (qx : Nat → Int32) (qy : Nat → Int32) (mn : Nat) (mc : Nat → Nat) (mk : Nat → Prop) (mo : Nat → Option Nat) (mr : Nat → Nat) (rest : va_W) (t : Nat) (k : Nat) (hi : 3 * t + k < 57) : Met l y_M_cornerOf (Cond.code y_M_cornerOf b_M_cornerOf 3 (some .int) :: ec_tbl) ({ frames := 0, cells := 0, slots := 0, locals := 0 }) (va_Pc [.ref (a 17), .int (nI t), .int (nI k)] (fun U => va_P (dC, dI) vwCl (wX a cI cZ cJ pn px py ln lf lt lr sn sf st sr th hn qx qy mn mc mk mo mr ++ rest) U.heap ∧ va_K (dC, dI) vwCl (ec_tys cI cZ cJ) U)) (vp_Si (fun r : Int32 => r = nI (mc (3 * t + k)))) 0 0 (fun _ => False) := by
  refine Met.ofW (cc := b_M_cornerOf) (maxL := 3) (ret := (some .int)) (by decide) rfl ?_
  intro p e s m args below meth c s₁ B hml hv0
  obtain ⟨rfl, hP, hK⟩ := hv0
  have hx := B.exec
  have hb := B.bytes
  have hr := B.returns
  have hts := atoms_spec (ws := (Cond.code y_M_cornerOf b_M_cornerOf 3 (some .int) :: ec_tbl)) B.pre
  have htb : ∀ w ∈ ec_tbl, w.before _ s = true := fun w h => hts w (List.mem_cons_of_mem _ h)
  clear hts
  have hown : s.vm.findClass "ExactMesh$CarvedMesh" = some m.cls := findClass_of_methodNamed B.named
  have hlocks := B.notSynchronized
  have hl := lv_entry ([.ref (a 17), .int (nI t), .int (nI k)]) (n := 3) (Nat.le_of_ble_eq_true rfl)
  rw [lg_entry_eq]
  generalize (lg_sl ([.ref (a 17), .int (nI t), .int (nI k)]) ++ List.replicate (3 - (lg_sl ([.ref (a 17), .int (nI t), .int (nI k)])).length) Slot.unset).toArray = ls at hl ⊢
  replace hl : lv_has ls 3 [(0, .ref (a 17)), (1, .int (nI t)), (2, .int (nI k))] := hl
  refine lv_aload_n hx hb d_M_cornerOf_0 rfl (lv_at hl 0 rfl) ?_
  refine va_get (D := (dC, dI)) (ci := 3) (v := .ref (a 18)) (C := R_M) (T := T_M) (N := 5) hx hb htb in_M hown hK hP 17 rfl rfl 0 (by decide) (htb _ wd_95) (fun _ h9 => h9) rfl d_M_cornerOf_1 ?_
  refine lv_iconst (v := nI 3) hx hb d_M_cornerOf_4 (by decide) ?_
  refine lv_iload_n hx hb d_M_cornerOf_5 rfl (lv_at hl 1 rfl) ?_
  refine ec_imul hx hb d_M_cornerOf_6 ?_
  refine lv_iload_n hx hb d_M_cornerOf_7 rfl (lv_at hl 2 rfl) ?_
  refine ec_iadd hx hb d_M_cornerOf_8 ?_
  refine ec_ialdN (f := mc) (i := (3 * t) + k) hx hb hK hP 18 0 rfl rfl (by omega) (by decide) d_M_cornerOf_9 ?_
  exact W.iret hx hb hr (fun tS ht hW => ⟨_, rfl, rfl, ht⟩) (fun _ h => nomatch h) d_M_cornerOf_10

set_option maxRecDepth 100000 in
set_option maxHeartbeats 4000000 in
theorem c_M_endOf (l : Launch) (dC : Nat → ClassId) (dI : Nat → Nat → Nat) (a : Nat → Nat) (cI cZ cJ : ClassId) (pn : Nat) (px : Nat → Int32) (py : Nat → Int32) (ln : Nat) (lf : Nat → Nat) (lt : Nat → Nat) (lr : Nat → Nat) (sn : Nat) (sf : Nat → Nat) (st : Nat → Nat) (sr : Nat → Nat) (th : Nat → Option Nat) (hn : Nat) (qx : Nat → Int32) (qy : Nat → Int32) (mn : Nat) (mc : Nat → Nat) (mk : Nat → Prop) (mo : Nat → Option Nat) (mr : Nat → Nat) (rest : va_W) (t : Nat) (k : Nat) (ht : t < 19) (hk : k ≤ 2) : Met l y_M_endOf (Cond.code y_M_endOf b_M_endOf 3 (some .int) :: ec_tbl) ({ frames := 1, cells := 0, slots := 0, locals := 22 }) (va_Pc [.ref (a 17), .int (nI t), .int (nI k)] (fun U => va_P (dC, dI) vwCl (wX a cI cZ cJ pn px py ln lf lt lr sn sf st sr th hn qx qy mn mc mk mo mr ++ rest) U.heap ∧ va_K (dC, dI) vwCl (ec_tys cI cZ cJ) U)) (vp_Si (fun r : Int32 => r = nI (mc (3 * t + ec_nx k)))) 0 0 (fun _ => False) := by
  refine Met.ofW (cc := b_M_endOf) (maxL := 3) (ret := (some .int)) (by decide) rfl ?_
  intro p e s m args below meth c s₁ B hml hv0
  obtain ⟨rfl, hP, hK⟩ := hv0
  have hx := B.exec
  have hb := B.bytes
  have hr := B.returns
  have hts := atoms_spec (ws := (Cond.code y_M_endOf b_M_endOf 3 (some .int) :: ec_tbl)) B.pre
  have htb : ∀ w ∈ ec_tbl, w.before _ s = true := fun w h => hts w (List.mem_cons_of_mem _ h)
  clear hts
  have hown : s.vm.findClass "ExactMesh$CarvedMesh" = some m.cls := findClass_of_methodNamed B.named
  have hlocks := B.notSynchronized
  have hl := lv_entry ([.ref (a 17), .int (nI t), .int (nI k)]) (n := 3) (Nat.le_of_ble_eq_true rfl)
  rw [lg_entry_eq]
  generalize (lg_sl ([.ref (a 17), .int (nI t), .int (nI k)]) ++ List.replicate (3 - (lg_sl ([.ref (a 17), .int (nI t), .int (nI k)])).length) Slot.unset).toArray = ls at hl ⊢
  replace hl : lv_has ls 3 [(0, .ref (a 17)), (1, .int (nI t)), (2, .int (nI k))] := hl
  refine lv_aload_n hx hb d_M_endOf_0 rfl (lv_at hl 0 rfl) ?_
  refine lv_iload_n hx hb d_M_endOf_1 rfl (lv_at hl 1 rfl) ?_
  refine lv_iload_n hx hb d_M_endOf_2 rfl (lv_at hl 2 rfl) ?_
  refine lv_iconst (v := nI 2) hx hb d_M_endOf_3 (by decide) ?_
  refine ec_icmp_ne (tgt := 11) hx hb d_M_endOf_4 rfl (by omega) (by omega) (fun h4 => ?_) (fun h4 => ?_)
  · refine lv_iload_n hx hb d_M_endOf_11 rfl (lv_at hl 2 rfl) ?_
    refine lv_iconst (v := nI 1) hx hb d_M_endOf_12 (by decide) ?_
    refine ec_iadd hx hb d_M_endOf_13 ?_
    refine ec_vSi (C := "ExactMesh$CarvedMesh") (ci := 3) (q := (R_M, T_M, 5)) (q0 := 17) (As := [.int (nI t), .int (nI (k + 1))]) (rest := []) ⟨hx, hb, hml, hown, htb⟩ (c_M_cornerOf l dC dI a cI cZ cJ pn px py ln lf lt lr sn sf st sr th hn qx qy mn mc mk mo mr rest t (k + 1) (by omega)) kv_M_cornerOf hK hP rfl rfl rfl wd_346 ⟨Nat.le_of_ble_eq_true rfl, Nat.le_of_ble_eq_true rfl⟩ ⟨rfl, rfl⟩ rfl hl.1 rfl (Nat.le_of_ble_eq_true rfl) d_M_endOf_14 ⟨Nat.zero_le _, Nat.zero_le _⟩ (fun r14 hr14 => ?_)
    replace hr14 : r14 = nI (mc (3 * t + (k + 1))) := hr14
    subst hr14
    exact W.iret hx hb hr (fun tS ht hW => ⟨_, rfl, (by rw [ec_nx_n h4]), ht⟩) (fun _ h => nomatch h) d_M_endOf_17
  · refine lv_iconst (v := nI 0) hx hb d_M_endOf_7 (by decide) ?_
    refine lv_goto (tgt := 14) hx hb d_M_endOf_8 rfl ?_
    refine ec_vSi (C := "ExactMesh$CarvedMesh") (ci := 3) (q := (R_M, T_M, 5)) (q0 := 17) (As := [.int (nI t), .int (nI 0)]) (rest := []) ⟨hx, hb, hml, hown, htb⟩ (c_M_cornerOf l dC dI a cI cZ cJ pn px py ln lf lt lr sn sf st sr th hn qx qy mn mc mk mo mr rest t 0 (by omega)) kv_M_cornerOf hK hP rfl rfl rfl wd_346 ⟨Nat.le_of_ble_eq_true rfl, Nat.le_of_ble_eq_true rfl⟩ ⟨rfl, rfl⟩ rfl hl.1 rfl (Nat.le_of_ble_eq_true rfl) d_M_endOf_14 ⟨Nat.zero_le _, Nat.zero_le _⟩ (fun r14_1 hr14_1 => ?_)
    replace hr14_1 : r14_1 = nI (mc (3 * t + 0)) := hr14_1
    subst hr14_1
    exact W.iret hx hb hr (fun tS ht hW => ⟨_, rfl, (by rw [ec_nx_2 h4]), ht⟩) (fun _ h => nomatch h) d_M_endOf_17

set_option maxRecDepth 100000 in
set_option maxHeartbeats 4000000 in
theorem c_M_beyond (l : Launch) (dC : Nat → ClassId) (dI : Nat → Nat → Nat) (a : Nat → Nat) (cI cZ cJ : ClassId) (pn : Nat) (px : Nat → Int32) (py : Nat → Int32) (ln : Nat) (lf : Nat → Nat) (lt : Nat → Nat) (lr : Nat → Nat) (sn : Nat) (sf : Nat → Nat) (st : Nat → Nat) (sr : Nat → Nat) (th : Nat → Option Nat) (hn : Nat) (qx : Nat → Int32) (qy : Nat → Int32) (mn : Nat) (mc : Nat → Nat) (mk : Nat → Prop) (mo : Nat → Option Nat) (mr : Nat → Nat) (rest : va_W) (t : Nat) (k : Nat) (g12 : pn ≤ 12) (gM : ec_MI pn mn mc mo mr) (ht : t < mn) (hk : k ≤ 2) : Met l y_M_beyond (Cond.code y_M_beyond b_M_beyond 3 (some .int) :: ec_tbl) ({ frames := 2, cells := 0, slots := 0, locals := 44 }) (va_Pc [.ref (a 17), .int (nI t), .int (nI k)] (fun U => va_P (dC, dI) vwCl (wX a cI cZ cJ pn px py ln lf lt lr sn sf st sr th hn qx qy mn mc mk mo mr ++ rest) U.heap ∧ va_K (dC, dI) vwCl (ec_tys cI cZ cJ) U)) (vp_Si (fun r : Int32 => r = ec_oi (ec_bey mc mo t k))) 0 0 (fun _ => False) := by
  refine Met.ofW (cc := b_M_beyond) (maxL := 3) (ret := (some .int)) (by decide) rfl ?_
  intro p e s m args below meth c s₁ B hml hv0
  obtain ⟨rfl, hP, hK⟩ := hv0
  have hx := B.exec
  have hb := B.bytes
  have hr := B.returns
  have hts := atoms_spec (ws := (Cond.code y_M_beyond b_M_beyond 3 (some .int) :: ec_tbl)) B.pre
  have htb : ∀ w ∈ ec_tbl, w.before _ s = true := fun w h => hts w (List.mem_cons_of_mem _ h)
  clear hts
  have hown : s.vm.findClass "ExactMesh$CarvedMesh" = some m.cls := findClass_of_methodNamed B.named
  have hlocks := B.notSynchronized
  have hl := lv_entry ([.ref (a 17), .int (nI t), .int (nI k)]) (n := 3) (Nat.le_of_ble_eq_true rfl)
  rw [lg_entry_eq]
  generalize (lg_sl ([.ref (a 17), .int (nI t), .int (nI k)]) ++ List.replicate (3 - (lg_sl ([.ref (a 17), .int (nI t), .int (nI k)])).length) Slot.unset).toArray = ls at hl ⊢
  replace hl : lv_has ls 3 [(0, .ref (a 17)), (1, .int (nI t)), (2, .int (nI k))] := hl
  have gmn := gM.1
  have gmc := gM.2.1
  have gow := gM.2.2.1
  have gmr := gM.2.2.2
  have q0 := gmc (3 * t + k) (by omega)
  have q1 := gmc (3 * t + ec_nx k) (by have := ec_nx_lt hk; omega)
  refine lv_aload_n hx hb d_M_beyond_0 rfl (lv_at hl 0 rfl) ?_
  refine va_get (D := (dC, dI)) (ci := 3) (v := .ref (a 20)) (C := R_M) (T := T_M) (N := 5) hx hb htb in_M hown hK hP 17 rfl rfl 2 (by decide) (htb _ wd_97) (fun _ h9 => h9) rfl d_M_beyond_1 ?_
  refine lv_aload_n hx hb d_M_beyond_4 rfl (lv_at hl 0 rfl) ?_
  refine lv_iload_n hx hb d_M_beyond_5 rfl (lv_at hl 1 rfl) ?_
  refine lv_iload_n hx hb d_M_beyond_6 rfl (lv_at hl 2 rfl) ?_
  refine ec_vSi (C := "ExactMesh$CarvedMesh") (ci := 3) (q := (R_M, T_M, 5)) (q0 := 17) (As := [.int (nI t), .int (nI k)]) (rest := [.ref (a 20)]) ⟨hx, hb, hml, hown, htb⟩ (c_M_endOf l dC dI a cI cZ cJ pn px py ln lf lt lr sn sf st sr th hn qx qy mn mc mk mo mr rest t k (by omega) (by omega)) kv_M_endOf hK hP rfl rfl rfl wd_350 ⟨Nat.le_of_ble_eq_true rfl, Nat.le_of_ble_eq_true rfl⟩ ⟨rfl, rfl⟩ rfl hl.1 rfl (Nat.le_of_ble_eq_true rfl) d_M_beyond_7 ⟨Nat.zero_le _, Nat.zero_le _⟩ (fun r7 hr7 => ?_)
  replace hr7 : r7 = nI (mc (3 * t + ec_nx k)) := hr7
  subst hr7
  refine lv_bipush (v := nI 12) hx hb d_M_beyond_10 (by decide) ?_
  refine ec_imul hx hb d_M_beyond_12 ?_
  refine lv_aload_n hx hb d_M_beyond_13 rfl (lv_at hl 0 rfl) ?_
  refine lv_iload_n hx hb d_M_beyond_14 rfl (lv_at hl 1 rfl) ?_
  refine lv_iload_n hx hb d_M_beyond_15 rfl (lv_at hl 2 rfl) ?_
  refine ec_vSi (C := "ExactMesh$CarvedMesh") (ci := 3) (q := (R_M, T_M, 5)) (q0 := 17) (As := [.int (nI t), .int (nI k)]) (rest := [.int (nI ((mc (3 * t + ec_nx k)) * 12)), .ref (a 20)]) ⟨hx, hb, hml, hown, htb⟩ (c_M_cornerOf l dC dI a cI cZ cJ pn px py ln lf lt lr sn sf st sr th hn qx qy mn mc mk mo mr rest t k (by omega)) kv_M_cornerOf hK hP rfl rfl rfl wd_346 ⟨Nat.le_of_ble_eq_true rfl, Nat.le_of_ble_eq_true rfl⟩ ⟨rfl, rfl⟩ rfl hl.1 rfl (Nat.le_of_ble_eq_true rfl) d_M_beyond_16 ⟨Nat.zero_le _, Nat.zero_le _⟩ (fun r16 hr16 => ?_)
  replace hr16 : r16 = nI (mc (3 * t + k)) := hr16
  subst hr16
  refine ec_iadd hx hb d_M_beyond_19 ?_
  refine ec_ialdO (f := mo) (i := ((mc (3 * t + ec_nx k)) * 12) + (mc (3 * t + k))) hx hb hK hP 20 0 rfl rfl (by omega) (by decide) d_M_beyond_20 ?_
  exact W.iret hx hb hr (fun tS ht hW => ⟨_, rfl, rfl, ht⟩) (fun _ h => nomatch h) d_M_beyond_21

set_option maxRecDepth 100000 in
set_option maxHeartbeats 4000000 in
theorem c_M_isFixed (l : Launch) (dC : Nat → ClassId) (dI : Nat → Nat → Nat) (a : Nat → Nat) (cI cZ cJ : ClassId) (pn : Nat) (px : Nat → Int32) (py : Nat → Int32) (ln : Nat) (lf : Nat → Nat) (lt : Nat → Nat) (lr : Nat → Nat) (sn : Nat) (sf : Nat → Nat) (st : Nat → Nat) (sr : Nat → Nat) (th : Nat → Option Nat) (hn : Nat) (qx : Nat → Int32) (qy : Nat → Int32) (mn : Nat) (mc : Nat → Nat) (mk : Nat → Prop) (mo : Nat → Option Nat) (mr : Nat → Nat) (rest : va_W) (t : Nat) (k : Nat) (g12 : pn ≤ 12) (gM : ec_MI pn mn mc mo mr) (ht : t < mn) (hk : k ≤ 2) : Met l y_M_isFixed (Cond.code y_M_isFixed b_M_isFixed 3 (some .boolean) :: ec_tbl) ({ frames := 2, cells := 0, slots := 0, locals := 44 }) (va_Pc [.ref (a 17), .int (nI t), .int (nI k)] (fun U => va_P (dC, dI) vwCl (wX a cI cZ cJ pn px py ln lf lt lr sn sf st sr th hn qx qy mn mc mk mo mr ++ rest) U.heap ∧ va_K (dC, dI) vwCl (ec_tys cI cZ cJ) U)) (vp_Si (fun r : Int32 => ec_isB r ((mr (mc (3 * t + k))).testBit (mc (3 * t + ec_nx k)) = true))) 0 0 (fun _ => False) := by
  refine Met.ofW (cc := b_M_isFixed) (maxL := 3) (ret := (some .boolean)) (by decide) rfl ?_
  intro p e s m args below meth c s₁ B hml hv0
  obtain ⟨rfl, hP, hK⟩ := hv0
  have hx := B.exec
  have hb := B.bytes
  have hr := B.returns
  have hts := atoms_spec (ws := (Cond.code y_M_isFixed b_M_isFixed 3 (some .boolean) :: ec_tbl)) B.pre
  have htb : ∀ w ∈ ec_tbl, w.before _ s = true := fun w h => hts w (List.mem_cons_of_mem _ h)
  clear hts
  have hown : s.vm.findClass "ExactMesh$CarvedMesh" = some m.cls := findClass_of_methodNamed B.named
  have hlocks := B.notSynchronized
  have hl := lv_entry ([.ref (a 17), .int (nI t), .int (nI k)]) (n := 3) (Nat.le_of_ble_eq_true rfl)
  rw [lg_entry_eq]
  generalize (lg_sl ([.ref (a 17), .int (nI t), .int (nI k)]) ++ List.replicate (3 - (lg_sl ([.ref (a 17), .int (nI t), .int (nI k)])).length) Slot.unset).toArray = ls at hl ⊢
  replace hl : lv_has ls 3 [(0, .ref (a 17)), (1, .int (nI t)), (2, .int (nI k))] := hl
  have gmn := gM.1
  have gmc := gM.2.1
  have gow := gM.2.2.1
  have gmr := gM.2.2.2
  have q0 := gmc (3 * t + k) (by omega)
  have q1 := gmc (3 * t + ec_nx k) (by have := ec_nx_lt hk; omega)
  refine lv_aload_n hx hb d_M_isFixed_0 rfl (lv_at hl 0 rfl) ?_
  refine va_get (D := (dC, dI)) (ci := 3) (v := .ref (a 21)) (C := R_M) (T := T_M) (N := 5) hx hb htb in_M hown hK hP 17 rfl rfl 3 (by decide) (htb _ wd_98) (fun _ h9 => h9) rfl d_M_isFixed_1 ?_
  refine lv_aload_n hx hb d_M_isFixed_4 rfl (lv_at hl 0 rfl) ?_
  refine lv_iload_n hx hb d_M_isFixed_5 rfl (lv_at hl 1 rfl) ?_
  refine lv_iload_n hx hb d_M_isFixed_6 rfl (lv_at hl 2 rfl) ?_
  refine ec_vSi (C := "ExactMesh$CarvedMesh") (ci := 3) (q := (R_M, T_M, 5)) (q0 := 17) (As := [.int (nI t), .int (nI k)]) (rest := [.ref (a 21)]) ⟨hx, hb, hml, hown, htb⟩ (c_M_cornerOf l dC dI a cI cZ cJ pn px py ln lf lt lr sn sf st sr th hn qx qy mn mc mk mo mr rest t k (by omega)) kv_M_cornerOf hK hP rfl rfl rfl wd_346 ⟨Nat.le_of_ble_eq_true rfl, Nat.le_of_ble_eq_true rfl⟩ ⟨rfl, rfl⟩ rfl hl.1 rfl (Nat.le_of_ble_eq_true rfl) d_M_isFixed_7 ⟨Nat.zero_le _, Nat.zero_le _⟩ (fun r7 hr7 => ?_)
  replace hr7 : r7 = nI (mc (3 * t + k)) := hr7
  subst hr7
  refine ec_ialdN (f := mr) (i := mc (3 * t + k)) hx hb hK hP 21 0 rfl rfl (by omega) (by decide) d_M_isFixed_10 ?_
  refine lv_aload_n hx hb d_M_isFixed_11 rfl (lv_at hl 0 rfl) ?_
  refine lv_iload_n hx hb d_M_isFixed_12 rfl (lv_at hl 1 rfl) ?_
  refine lv_iload_n hx hb d_M_isFixed_13 rfl (lv_at hl 2 rfl) ?_
  refine ec_vSi (C := "ExactMesh$CarvedMesh") (ci := 3) (q := (R_M, T_M, 5)) (q0 := 17) (As := [.int (nI t), .int (nI k)]) (rest := [.int (nI (mr (mc (3 * t + k))))]) ⟨hx, hb, hml, hown, htb⟩ (c_M_endOf l dC dI a cI cZ cJ pn px py ln lf lt lr sn sf st sr th hn qx qy mn mc mk mo mr rest t k (by omega) (by omega)) kv_M_endOf hK hP rfl rfl rfl wd_350 ⟨Nat.le_of_ble_eq_true rfl, Nat.le_of_ble_eq_true rfl⟩ ⟨rfl, rfl⟩ rfl hl.1 rfl (Nat.le_of_ble_eq_true rfl) d_M_isFixed_14 ⟨Nat.zero_le _, Nat.zero_le _⟩ (fun r14 hr14 => ?_)
  replace hr14 : r14 = nI (mc (3 * t + ec_nx k)) := hr14
  subst hr14
  refine lv_ishr hx hb d_M_isFixed_17 ?_
  refine lv_iconst (v := nI 1) hx hb d_M_isFixed_18 (by decide) ?_
  refine lv_iand hx hb d_M_isFixed_19 ?_
  refine lv_if_eq (tgt := 27) hx hb d_M_isFixed_20 rfl (fun h20 => ?_) (fun h20 => ?_)
  · refine lv_iconst (v := nI 0) hx hb d_M_isFixed_27 (by decide) ?_
    exact W.zret hx hb hr rfl (fun tS ht hW => ⟨_, rfl, (ec_isB.f0 (ec_join0 (gmr _ (by omega)) (by omega) h20)), ht⟩) (fun _ h => nomatch h) d_M_isFixed_28
  · refine lv_iconst (v := nI 1) hx hb d_M_isFixed_23 (by decide) ?_
    refine lv_goto (tgt := 28) hx hb d_M_isFixed_24 rfl ?_
    exact W.zret hx hb hr rfl (fun tS ht hW => ⟨_, rfl, (ec_isB.t1 (ec_join1 (gmr _ (by omega)) (by omega) h20)), ht⟩) (fun _ h => nomatch h) d_M_isFixed_28

set_option maxRecDepth 100000 in
set_option maxHeartbeats 4000000 in
theorem c_M_holds (l : Launch) (dC : Nat → ClassId) (dI : Nat → Nat → Nat) (a : Nat → Nat) (cI cZ cJ : ClassId) (pn : Nat) (px : Nat → Int32) (py : Nat → Int32) (ln : Nat) (lf : Nat → Nat) (lt : Nat → Nat) (lr : Nat → Nat) (sn : Nat) (sf : Nat → Nat) (st : Nat → Nat) (sr : Nat → Nat) (th : Nat → Option Nat) (hn : Nat) (qx : Nat → Int32) (qy : Nat → Int32) (mn : Nat) (mc : Nat → Nat) (mk : Nat → Prop) (mo : Nat → Option Nat) (mr : Nat → Nat) (rest : va_W) (t : Nat) (vx : Int32) (vy : Int32) (g12 : pn ≤ 12) (gN : ∀ i, i < pn → ec_near (px i) ∧ ec_near (py i)) (gM : ec_MI pn mn mc mo mr) (ht : t < mn) : Met l y_M_holds (Cond.code y_M_holds b_M_holds 6 (some .boolean) :: ec_tbl) ({ frames := 2, cells := 0, slots := 0, locals := 44 }) (va_Pc [.ref (a 17), .ref (a 2), .int (nI t), .int vx, .int vy] (fun U => va_P (dC, dI) vwCl (wX a cI cZ cJ pn px py ln lf lt lr sn sf st sr th hn qx qy mn mc mk mo mr ++ rest) U.heap ∧ va_K (dC, dI) vwCl (ec_tys cI cZ cJ) U)) (vp_Si (fun r : Int32 => ec_isB r (ec_hold px py mc t vx vy))) 0 0 (fun _ => False) := by
  refine Met.ofW (cc := b_M_holds) (maxL := 6) (ret := (some .boolean)) (by decide) rfl ?_
  intro p e s m args below meth c s₁ B hml hv0
  obtain ⟨rfl, hP, hK⟩ := hv0
  have hx := B.exec
  have hb := B.bytes
  have hr := B.returns
  have hts := atoms_spec (ws := (Cond.code y_M_holds b_M_holds 6 (some .boolean) :: ec_tbl)) B.pre
  have htb : ∀ w ∈ ec_tbl, w.before _ s = true := fun w h => hts w (List.mem_cons_of_mem _ h)
  clear hts
  have hown : s.vm.findClass "ExactMesh$CarvedMesh" = some m.cls := findClass_of_methodNamed B.named
  have hlocks := B.notSynchronized
  have hl := lv_entry ([.ref (a 17), .ref (a 2), .int (nI t), .int vx, .int vy]) (n := 6) (Nat.le_of_ble_eq_true rfl)
  rw [lg_entry_eq]
  generalize (lg_sl ([.ref (a 17), .ref (a 2), .int (nI t), .int vx, .int vy]) ++ List.replicate (6 - (lg_sl ([.ref (a 17), .ref (a 2), .int (nI t), .int vx, .int vy])).length) Slot.unset).toArray = ls at hl ⊢
  replace hl : lv_has ls 6 [(0, .ref (a 17)), (1, .ref (a 2)), (2, .int (nI t)), (3, .int vx), (4, .int vy)] := hl
  have gmn := gM.1
  have gmc := gM.2.1
  have gow := gM.2.2.1
  have gmr := gM.2.2.2
  have c0 := gmc (3 * t + 0) (by omega)
  have c1 := gmc (3 * t + 1) (by omega)
  have c2 := gmc (3 * t + 2) (by omega)
  have d0 : mc (3 * t + ec_nx 0) < pn := gmc (3 * t + ec_nx 0) (by have := ec_nx_lt (k := 0) (by omega); omega)
  have d1 : mc (3 * t + ec_nx 1) < pn := gmc (3 * t + ec_nx 1) (by have := ec_nx_lt (k := 1) (by omega); omega)
  have d2 : mc (3 * t + ec_nx 2) < pn := gmc (3 * t + ec_nx 2) (by have := ec_nx_lt (k := 2) (by omega); omega)
  refine lv_iconst (v := nI 0) hx hb d_M_holds_0 (by decide) ?_
  refine lv_istore hx hb d_M_holds_1 hl (by decide) rfl (fun ls hl => ?_)
  replace hl : lv_has ls 6 [(5, .int (nI 0)), (0, .ref (a 17)), (1, .ref (a 2)), (2, .int (nI t)), (3, .int vx), (4, .int vy)] := hl
  refine lv_iload hx hb d_M_holds_3 (lv_at hl 0 rfl) ?_
  refine lv_iconst (v := nI 3) hx hb d_M_holds_5 (by decide) ?_
  refine ec_icmp_ge (tgt := 43) hx hb d_M_holds_6 rfl (by omega) (by omega) (fun h6 => ?_) (fun h6 => ?_)
  · exact absurd h6 (by decide)
  · refine lv_aload_n hx hb d_M_holds_9 rfl (lv_at hl 2 rfl) ?_
    refine lv_aload_n hx hb d_M_holds_10 rfl (lv_at hl 1 rfl) ?_
    refine lv_iload_n hx hb d_M_holds_11 rfl (lv_at hl 3 rfl) ?_
    refine lv_iload hx hb d_M_holds_12 (lv_at hl 0 rfl) ?_
    refine ec_vSi (C := "ExactMesh$CarvedMesh") (ci := 3) (q := (R_M, T_M, 5)) (q0 := 17) (As := [.int (nI t), .int (nI 0)]) (rest := [.ref (a 2)]) ⟨hx, hb, hml, hown, htb⟩ (c_M_cornerOf l dC dI a cI cZ cJ pn px py ln lf lt lr sn sf st sr th hn qx qy mn mc mk mo mr rest t 0 (by omega)) kv_M_cornerOf hK hP rfl rfl rfl wd_346 ⟨Nat.le_of_ble_eq_true rfl, Nat.le_of_ble_eq_true rfl⟩ ⟨rfl, rfl⟩ rfl hl.1 rfl (Nat.le_of_ble_eq_true rfl) d_M_holds_14 ⟨Nat.zero_le _, Nat.zero_le _⟩ (fun r14 hr14 => ?_)
    replace hr14 : r14 = nI (mc (3 * t + 0)) := hr14
    subst hr14
    refine lv_aload_n hx hb d_M_holds_17 rfl (lv_at hl 1 rfl) ?_
    refine lv_iload_n hx hb d_M_holds_18 rfl (lv_at hl 3 rfl) ?_
    refine lv_iload hx hb d_M_holds_19 (lv_at hl 0 rfl) ?_
    refine ec_vSi (C := "ExactMesh$CarvedMesh") (ci := 3) (q := (R_M, T_M, 5)) (q0 := 17) (As := [.int (nI t), .int (nI 0)]) (rest := [.int (nI (mc (3 * t + 0))), .ref (a 2)]) ⟨hx, hb, hml, hown, htb⟩ (c_M_endOf l dC dI a cI cZ cJ pn px py ln lf lt lr sn sf st sr th hn qx qy mn mc mk mo mr rest t 0 (by omega) (by omega)) kv_M_endOf hK hP rfl rfl rfl wd_350 ⟨Nat.le_of_ble_eq_true rfl, Nat.le_of_ble_eq_true rfl⟩ ⟨rfl, rfl⟩ rfl hl.1 rfl (Nat.le_of_ble_eq_true rfl) d_M_holds_21 ⟨Nat.zero_le _, Nat.zero_le _⟩ (fun r21 hr21 => ?_)
    replace hr21 : r21 = nI (mc (3 * t + ec_nx 0)) := hr21
    subst hr21
    refine lv_iload_n hx hb d_M_holds_24 rfl (lv_at hl 4 rfl) ?_
    refine lv_iload hx hb d_M_holds_25 (lv_at hl 5 rfl) ?_
    refine ec_vSl (C := "ExactMesh$Points") (ci := 0) (q := (R_P, T_P, 3)) (q0 := 2) (As := [.int (nI (mc (3 * t + 0))), .int (nI (mc (3 * t + ec_nx 0))), .int vx, .int vy]) (rest := []) ⟨hx, hb, hml, hown, htb⟩ (c_P_leftness l dC dI a cI cZ cJ pn px py ln lf lt lr sn sf st sr th hn qx qy mn mc mk mo mr rest (mc (3 * t + 0)) (mc (3 * t + ec_nx 0)) vx vy g12 gN (by omega) (by omega)) kv_P_leftness hK hP rfl rfl rfl wd_354 ⟨Nat.le_of_ble_eq_true rfl, Nat.le_of_ble_eq_true rfl⟩ ⟨rfl, rfl⟩ rfl hl.1 rfl (Nat.le_of_ble_eq_true rfl) d_M_holds_27 ⟨Nat.zero_le _, Nat.zero_le _⟩ (fun r27 hr27 => ?_)
    replace hr27 : r27.toInt = ec_lf (px (mc (3 * t + 0))).toInt (py (mc (3 * t + 0))).toInt (px (mc (3 * t + ec_nx 0))).toInt (py (mc (3 * t + ec_nx 0))).toInt vx.toInt vy.toInt := hr27
    refine lv_lconst (v := 0) hx hb d_M_holds_30 (by decide) ?_
    refine W.lcmp hx hb d_M_holds_31 ?_
    refine lv_if_ge (tgt := 37) hx hb d_M_holds_32 rfl (fun h32 => ?_) (fun h32 => ?_)
    · rw [lg_cmp_ge] at h32
      refine ec_iinc (k := 0) hx hb d_M_holds_37 hl rfl (by decide) rfl (fun ls hl => ?_)
      replace hl : lv_has ls 6 [(5, .int (nI 1)), (0, .ref (a 17)), (1, .ref (a 2)), (2, .int (nI t)), (3, .int vx), (4, .int vy)] := hl
      refine lv_goto (tgt := 3) hx hb d_M_holds_40 rfl ?_
      refine lv_iload hx hb d_M_holds_3 (lv_at hl 0 rfl) ?_
      refine lv_iconst (v := nI 3) hx hb d_M_holds_5 (by decide) ?_
      refine ec_icmp_ge (tgt := 43) hx hb d_M_holds_6 rfl (by omega) (by omega) (fun h6_1 => ?_) (fun h6_1 => ?_)
      · exact absurd h6_1 (by decide)
      · refine lv_aload_n hx hb d_M_holds_9 rfl (lv_at hl 2 rfl) ?_
        refine lv_aload_n hx hb d_M_holds_10 rfl (lv_at hl 1 rfl) ?_
        refine lv_iload_n hx hb d_M_holds_11 rfl (lv_at hl 3 rfl) ?_
        refine lv_iload hx hb d_M_holds_12 (lv_at hl 0 rfl) ?_
        refine ec_vSi (C := "ExactMesh$CarvedMesh") (ci := 3) (q := (R_M, T_M, 5)) (q0 := 17) (As := [.int (nI t), .int (nI 1)]) (rest := [.ref (a 2)]) ⟨hx, hb, hml, hown, htb⟩ (c_M_cornerOf l dC dI a cI cZ cJ pn px py ln lf lt lr sn sf st sr th hn qx qy mn mc mk mo mr rest t 1 (by omega)) kv_M_cornerOf hK hP rfl rfl rfl wd_346 ⟨Nat.le_of_ble_eq_true rfl, Nat.le_of_ble_eq_true rfl⟩ ⟨rfl, rfl⟩ rfl hl.1 rfl (Nat.le_of_ble_eq_true rfl) d_M_holds_14 ⟨Nat.zero_le _, Nat.zero_le _⟩ (fun r14_1 hr14_1 => ?_)
        replace hr14_1 : r14_1 = nI (mc (3 * t + 1)) := hr14_1
        subst hr14_1
        refine lv_aload_n hx hb d_M_holds_17 rfl (lv_at hl 1 rfl) ?_
        refine lv_iload_n hx hb d_M_holds_18 rfl (lv_at hl 3 rfl) ?_
        refine lv_iload hx hb d_M_holds_19 (lv_at hl 0 rfl) ?_
        refine ec_vSi (C := "ExactMesh$CarvedMesh") (ci := 3) (q := (R_M, T_M, 5)) (q0 := 17) (As := [.int (nI t), .int (nI 1)]) (rest := [.int (nI (mc (3 * t + 1))), .ref (a 2)]) ⟨hx, hb, hml, hown, htb⟩ (c_M_endOf l dC dI a cI cZ cJ pn px py ln lf lt lr sn sf st sr th hn qx qy mn mc mk mo mr rest t 1 (by omega) (by omega)) kv_M_endOf hK hP rfl rfl rfl wd_350 ⟨Nat.le_of_ble_eq_true rfl, Nat.le_of_ble_eq_true rfl⟩ ⟨rfl, rfl⟩ rfl hl.1 rfl (Nat.le_of_ble_eq_true rfl) d_M_holds_21 ⟨Nat.zero_le _, Nat.zero_le _⟩ (fun r21_1 hr21_1 => ?_)
        replace hr21_1 : r21_1 = nI (mc (3 * t + ec_nx 1)) := hr21_1
        subst hr21_1
        refine lv_iload_n hx hb d_M_holds_24 rfl (lv_at hl 4 rfl) ?_
        refine lv_iload hx hb d_M_holds_25 (lv_at hl 5 rfl) ?_
        refine ec_vSl (C := "ExactMesh$Points") (ci := 0) (q := (R_P, T_P, 3)) (q0 := 2) (As := [.int (nI (mc (3 * t + 1))), .int (nI (mc (3 * t + ec_nx 1))), .int vx, .int vy]) (rest := []) ⟨hx, hb, hml, hown, htb⟩ (c_P_leftness l dC dI a cI cZ cJ pn px py ln lf lt lr sn sf st sr th hn qx qy mn mc mk mo mr rest (mc (3 * t + 1)) (mc (3 * t + ec_nx 1)) vx vy g12 gN (by omega) (by omega)) kv_P_leftness hK hP rfl rfl rfl wd_354 ⟨Nat.le_of_ble_eq_true rfl, Nat.le_of_ble_eq_true rfl⟩ ⟨rfl, rfl⟩ rfl hl.1 rfl (Nat.le_of_ble_eq_true rfl) d_M_holds_27 ⟨Nat.zero_le _, Nat.zero_le _⟩ (fun r27_1 hr27_1 => ?_)
        replace hr27_1 : r27_1.toInt = ec_lf (px (mc (3 * t + 1))).toInt (py (mc (3 * t + 1))).toInt (px (mc (3 * t + ec_nx 1))).toInt (py (mc (3 * t + ec_nx 1))).toInt vx.toInt vy.toInt := hr27_1
        refine lv_lconst (v := 0) hx hb d_M_holds_30 (by decide) ?_
        refine W.lcmp hx hb d_M_holds_31 ?_
        refine lv_if_ge (tgt := 37) hx hb d_M_holds_32 rfl (fun h32_1 => ?_) (fun h32_1 => ?_)
        · rw [lg_cmp_ge] at h32_1
          refine ec_iinc (k := 0) hx hb d_M_holds_37 hl rfl (by decide) rfl (fun ls hl => ?_)
          replace hl : lv_has ls 6 [(5, .int (nI 2)), (0, .ref (a 17)), (1, .ref (a 2)), (2, .int (nI t)), (3, .int vx), (4, .int vy)] := hl
          refine lv_goto (tgt := 3) hx hb d_M_holds_40 rfl ?_
          refine lv_iload hx hb d_M_holds_3 (lv_at hl 0 rfl) ?_
          refine lv_iconst (v := nI 3) hx hb d_M_holds_5 (by decide) ?_
          refine ec_icmp_ge (tgt := 43) hx hb d_M_holds_6 rfl (by omega) (by omega) (fun h6_2 => ?_) (fun h6_2 => ?_)
          · exact absurd h6_2 (by decide)
          · refine lv_aload_n hx hb d_M_holds_9 rfl (lv_at hl 2 rfl) ?_
            refine lv_aload_n hx hb d_M_holds_10 rfl (lv_at hl 1 rfl) ?_
            refine lv_iload_n hx hb d_M_holds_11 rfl (lv_at hl 3 rfl) ?_
            refine lv_iload hx hb d_M_holds_12 (lv_at hl 0 rfl) ?_
            refine ec_vSi (C := "ExactMesh$CarvedMesh") (ci := 3) (q := (R_M, T_M, 5)) (q0 := 17) (As := [.int (nI t), .int (nI 2)]) (rest := [.ref (a 2)]) ⟨hx, hb, hml, hown, htb⟩ (c_M_cornerOf l dC dI a cI cZ cJ pn px py ln lf lt lr sn sf st sr th hn qx qy mn mc mk mo mr rest t 2 (by omega)) kv_M_cornerOf hK hP rfl rfl rfl wd_346 ⟨Nat.le_of_ble_eq_true rfl, Nat.le_of_ble_eq_true rfl⟩ ⟨rfl, rfl⟩ rfl hl.1 rfl (Nat.le_of_ble_eq_true rfl) d_M_holds_14 ⟨Nat.zero_le _, Nat.zero_le _⟩ (fun r14_2 hr14_2 => ?_)
            replace hr14_2 : r14_2 = nI (mc (3 * t + 2)) := hr14_2
            subst hr14_2
            refine lv_aload_n hx hb d_M_holds_17 rfl (lv_at hl 1 rfl) ?_
            refine lv_iload_n hx hb d_M_holds_18 rfl (lv_at hl 3 rfl) ?_
            refine lv_iload hx hb d_M_holds_19 (lv_at hl 0 rfl) ?_
            refine ec_vSi (C := "ExactMesh$CarvedMesh") (ci := 3) (q := (R_M, T_M, 5)) (q0 := 17) (As := [.int (nI t), .int (nI 2)]) (rest := [.int (nI (mc (3 * t + 2))), .ref (a 2)]) ⟨hx, hb, hml, hown, htb⟩ (c_M_endOf l dC dI a cI cZ cJ pn px py ln lf lt lr sn sf st sr th hn qx qy mn mc mk mo mr rest t 2 (by omega) (by omega)) kv_M_endOf hK hP rfl rfl rfl wd_350 ⟨Nat.le_of_ble_eq_true rfl, Nat.le_of_ble_eq_true rfl⟩ ⟨rfl, rfl⟩ rfl hl.1 rfl (Nat.le_of_ble_eq_true rfl) d_M_holds_21 ⟨Nat.zero_le _, Nat.zero_le _⟩ (fun r21_2 hr21_2 => ?_)
            replace hr21_2 : r21_2 = nI (mc (3 * t + ec_nx 2)) := hr21_2
            subst hr21_2
            refine lv_iload_n hx hb d_M_holds_24 rfl (lv_at hl 4 rfl) ?_
            refine lv_iload hx hb d_M_holds_25 (lv_at hl 5 rfl) ?_
            refine ec_vSl (C := "ExactMesh$Points") (ci := 0) (q := (R_P, T_P, 3)) (q0 := 2) (As := [.int (nI (mc (3 * t + 2))), .int (nI (mc (3 * t + ec_nx 2))), .int vx, .int vy]) (rest := []) ⟨hx, hb, hml, hown, htb⟩ (c_P_leftness l dC dI a cI cZ cJ pn px py ln lf lt lr sn sf st sr th hn qx qy mn mc mk mo mr rest (mc (3 * t + 2)) (mc (3 * t + ec_nx 2)) vx vy g12 gN (by omega) (by omega)) kv_P_leftness hK hP rfl rfl rfl wd_354 ⟨Nat.le_of_ble_eq_true rfl, Nat.le_of_ble_eq_true rfl⟩ ⟨rfl, rfl⟩ rfl hl.1 rfl (Nat.le_of_ble_eq_true rfl) d_M_holds_27 ⟨Nat.zero_le _, Nat.zero_le _⟩ (fun r27_2 hr27_2 => ?_)
            replace hr27_2 : r27_2.toInt = ec_lf (px (mc (3 * t + 2))).toInt (py (mc (3 * t + 2))).toInt (px (mc (3 * t + ec_nx 2))).toInt (py (mc (3 * t + ec_nx 2))).toInt vx.toInt vy.toInt := hr27_2
            refine lv_lconst (v := 0) hx hb d_M_holds_30 (by decide) ?_
            refine W.lcmp hx hb d_M_holds_31 ?_
            refine lv_if_ge (tgt := 37) hx hb d_M_holds_32 rfl (fun h32_2 => ?_) (fun h32_2 => ?_)
            · rw [lg_cmp_ge] at h32_2
              refine ec_iinc (k := 0) hx hb d_M_holds_37 hl rfl (by decide) rfl (fun ls hl => ?_)
              replace hl : lv_has ls 6 [(5, .int (nI 3)), (0, .ref (a 17)), (1, .ref (a 2)), (2, .int (nI t)), (3, .int vx), (4, .int vy)] := hl
              refine lv_goto (tgt := 3) hx hb d_M_holds_40 rfl ?_
              refine lv_iload hx hb d_M_holds_3 (lv_at hl 0 rfl) ?_
              refine lv_iconst (v := nI 3) hx hb d_M_holds_5 (by decide) ?_
              refine ec_icmp_ge (tgt := 43) hx hb d_M_holds_6 rfl (by omega) (by omega) (fun h6_3 => ?_) (fun h6_3 => ?_)
              · refine lv_iconst (v := nI 1) hx hb d_M_holds_43 (by decide) ?_
                exact W.zret hx hb hr rfl (fun tS ht hW => ⟨_, rfl, (ec_isB.t1 ⟨ec_ge0 hr27 h32, ec_ge0 hr27_1 h32_1, ec_ge0 hr27_2 h32_2⟩), ht⟩) (fun _ h => nomatch h) d_M_holds_44
              · exact absurd h6_3 (by decide)
            · rw [lg_cmp_ge] at h32_2
              refine lv_iconst (v := nI 0) hx hb d_M_holds_35 (by decide) ?_
              exact W.zret hx hb hr rfl (fun tS ht hW => ⟨_, rfl, (ec_isB.f0 (fun q => ec_lt0 hr27_2 h32_2 q.2.2)), ht⟩) (fun _ h => nomatch h) d_M_holds_36
        · rw [lg_cmp_ge] at h32_1
          refine lv_iconst (v := nI 0) hx hb d_M_holds_35 (by decide) ?_
          exact W.zret hx hb hr rfl (fun tS ht hW => ⟨_, rfl, (ec_isB.f0 (fun q => ec_lt0 hr27_1 h32_1 q.2.1)), ht⟩) (fun _ h => nomatch h) d_M_holds_36
    · rw [lg_cmp_ge] at h32
      refine lv_iconst (v := nI 0) hx hb d_M_holds_35 (by decide) ?_
      exact W.zret hx hb hr rfl (fun tS ht hW => ⟨_, rfl, (ec_isB.f0 (fun q => ec_lt0 hr27 h32 q.1)), ht⟩) (fun _ h => nomatch h) d_M_holds_36

set_option maxRecDepth 100000 in
set_option maxHeartbeats 4000000 in
theorem c_M_doubleArea (l : Launch) (dC : Nat → ClassId) (dI : Nat → Nat → Nat) (a : Nat → Nat) (cI cZ cJ : ClassId) (pn : Nat) (px : Nat → Int32) (py : Nat → Int32) (ln : Nat) (lf : Nat → Nat) (lt : Nat → Nat) (lr : Nat → Nat) (sn : Nat) (sf : Nat → Nat) (st : Nat → Nat) (sr : Nat → Nat) (th : Nat → Option Nat) (hn : Nat) (qx : Nat → Int32) (qy : Nat → Int32) (mn : Nat) (mc : Nat → Nat) (mk : Nat → Prop) (mo : Nat → Option Nat) (mr : Nat → Nat) (rest : va_W) (t : Nat) (g12 : pn ≤ 12) (gN : ∀ i, i < pn → ec_near (px i) ∧ ec_near (py i)) (gM : ec_MI pn mn mc mo mr) (ht : t < mn) : Met l y_M_doubleArea (Cond.code y_M_doubleArea b_M_doubleArea 4 (some .long) :: ec_tbl) ({ frames := 1, cells := 0, slots := 0, locals := 28 }) (va_Pc [.ref (a 17), .ref (a 2), .int (nI t)] (fun U => va_P (dC, dI) vwCl (wX a cI cZ cJ pn px py ln lf lt lr sn sf st sr th hn qx qy mn mc mk mo mr ++ rest) U.heap ∧ va_K (dC, dI) vwCl (ec_tys cI cZ cJ) U)) (vp_Sl (fun r : Int64 => r.toInt = ec_lf (px (mc (3 * t + 0))).toInt (py (mc (3 * t + 0))).toInt (px (mc (3 * t + 1))).toInt (py (mc (3 * t + 1))).toInt (px (mc (3 * t + 2))).toInt (py (mc (3 * t + 2))).toInt)) 0 0 (fun _ => False) := by
  refine Met.ofW (cc := b_M_doubleArea) (maxL := 4) (ret := (some .long)) (by decide) rfl ?_
  intro p e s m args below meth c s₁ B hml hv0
  obtain ⟨rfl, hP, hK⟩ := hv0
  have hx := B.exec
  have hb := B.bytes
  have hr := B.returns
  have hts := atoms_spec (ws := (Cond.code y_M_doubleArea b_M_doubleArea 4 (some .long) :: ec_tbl)) B.pre
  have htb : ∀ w ∈ ec_tbl, w.before _ s = true := fun w h => hts w (List.mem_cons_of_mem _ h)
  clear hts
  have hown : s.vm.findClass "ExactMesh$CarvedMesh" = some m.cls := findClass_of_methodNamed B.named
  have hlocks := B.notSynchronized
  have hl := lv_entry ([.ref (a 17), .ref (a 2), .int (nI t)]) (n := 4) (Nat.le_of_ble_eq_true rfl)
  rw [lg_entry_eq]
  generalize (lg_sl ([.ref (a 17), .ref (a 2), .int (nI t)]) ++ List.replicate (4 - (lg_sl ([.ref (a 17), .ref (a 2), .int (nI t)])).length) Slot.unset).toArray = ls at hl ⊢
  replace hl : lv_has ls 4 [(0, .ref (a 17)), (1, .ref (a 2)), (2, .int (nI t))] := hl
  have gmn := gM.1
  have gmc := gM.2.1
  have gow := gM.2.2.1
  have gmr := gM.2.2.2
  have c0 := gmc (3 * t + 0) (by omega)
  have c1 := gmc (3 * t + 1) (by omega)
  have c2 := gmc (3 * t + 2) (by omega)
  have d0 : mc (3 * t + ec_nx 0) < pn := gmc (3 * t + ec_nx 0) (by have := ec_nx_lt (k := 0) (by omega); omega)
  have d1 : mc (3 * t + ec_nx 1) < pn := gmc (3 * t + ec_nx 1) (by have := ec_nx_lt (k := 1) (by omega); omega)
  have d2 : mc (3 * t + ec_nx 2) < pn := gmc (3 * t + ec_nx 2) (by have := ec_nx_lt (k := 2) (by omega); omega)
  refine lv_aload_n hx hb d_M_doubleArea_0 rfl (lv_at hl 0 rfl) ?_
  refine lv_iload_n hx hb d_M_doubleArea_1 rfl (lv_at hl 2 rfl) ?_
  refine lv_iconst (v := nI 2) hx hb d_M_doubleArea_2 (by decide) ?_
  refine ec_vSi (C := "ExactMesh$CarvedMesh") (ci := 3) (q := (R_M, T_M, 5)) (q0 := 17) (As := [.int (nI t), .int (nI 2)]) (rest := []) ⟨hx, hb, hml, hown, htb⟩ (c_M_cornerOf l dC dI a cI cZ cJ pn px py ln lf lt lr sn sf st sr th hn qx qy mn mc mk mo mr rest t 2 (by omega)) kv_M_cornerOf hK hP rfl rfl rfl wd_346 ⟨Nat.le_of_ble_eq_true rfl, Nat.le_of_ble_eq_true rfl⟩ ⟨rfl, rfl⟩ rfl hl.1 rfl (Nat.le_of_ble_eq_true rfl) d_M_doubleArea_3 ⟨Nat.zero_le _, Nat.zero_le _⟩ (fun r3 hr3 => ?_)
  replace hr3 : r3 = nI (mc (3 * t + 2)) := hr3
  subst hr3
  refine lv_istore_n hx hb d_M_doubleArea_6 rfl hl (by decide) rfl (fun ls hl => ?_)
  replace hl : lv_has ls 4 [(3, .int (nI (mc (3 * t + 2)))), (0, .ref (a 17)), (1, .ref (a 2)), (2, .int (nI t))] := hl
  refine lv_aload_n hx hb d_M_doubleArea_7 rfl (lv_at hl 2 rfl) ?_
  refine lv_aload_n hx hb d_M_doubleArea_8 rfl (lv_at hl 1 rfl) ?_
  refine lv_iload_n hx hb d_M_doubleArea_9 rfl (lv_at hl 3 rfl) ?_
  refine lv_iconst (v := nI 0) hx hb d_M_doubleArea_10 (by decide) ?_
  refine ec_vSi (C := "ExactMesh$CarvedMesh") (ci := 3) (q := (R_M, T_M, 5)) (q0 := 17) (As := [.int (nI t), .int (nI 0)]) (rest := [.ref (a 2)]) ⟨hx, hb, hml, hown, htb⟩ (c_M_cornerOf l dC dI a cI cZ cJ pn px py ln lf lt lr sn sf st sr th hn qx qy mn mc mk mo mr rest t 0 (by omega)) kv_M_cornerOf hK hP rfl rfl rfl wd_346 ⟨Nat.le_of_ble_eq_true rfl, Nat.le_of_ble_eq_true rfl⟩ ⟨rfl, rfl⟩ rfl hl.1 rfl (Nat.le_of_ble_eq_true rfl) d_M_doubleArea_11 ⟨Nat.zero_le _, Nat.zero_le _⟩ (fun r11 hr11 => ?_)
  replace hr11 : r11 = nI (mc (3 * t + 0)) := hr11
  subst hr11
  refine lv_aload_n hx hb d_M_doubleArea_14 rfl (lv_at hl 1 rfl) ?_
  refine lv_iload_n hx hb d_M_doubleArea_15 rfl (lv_at hl 3 rfl) ?_
  refine lv_iconst (v := nI 1) hx hb d_M_doubleArea_16 (by decide) ?_
  refine ec_vSi (C := "ExactMesh$CarvedMesh") (ci := 3) (q := (R_M, T_M, 5)) (q0 := 17) (As := [.int (nI t), .int (nI 1)]) (rest := [.int (nI (mc (3 * t + 0))), .ref (a 2)]) ⟨hx, hb, hml, hown, htb⟩ (c_M_cornerOf l dC dI a cI cZ cJ pn px py ln lf lt lr sn sf st sr th hn qx qy mn mc mk mo mr rest t 1 (by omega)) kv_M_cornerOf hK hP rfl rfl rfl wd_346 ⟨Nat.le_of_ble_eq_true rfl, Nat.le_of_ble_eq_true rfl⟩ ⟨rfl, rfl⟩ rfl hl.1 rfl (Nat.le_of_ble_eq_true rfl) d_M_doubleArea_17 ⟨Nat.zero_le _, Nat.zero_le _⟩ (fun r17 hr17 => ?_)
  replace hr17 : r17 = nI (mc (3 * t + 1)) := hr17
  subst hr17
  refine lv_aload_n hx hb d_M_doubleArea_20 rfl (lv_at hl 2 rfl) ?_
  refine va_getN (D := (dC, dI)) (ci := 0) (v := .ref (a 3)) (C := R_P) (T := T_P) (N := 3) hx hb htb in_P hown hK hP 2 rfl rfl 0 (by decide) (htb _ wd_32) (fun _ h9 => h9) rfl d_M_doubleArea_21 ?_
  refine lv_iload_n hx hb d_M_doubleArea_24 rfl (lv_at hl 0 rfl) ?_
  refine ec_iald (f := px) (i := mc (3 * t + 2)) hx hb hK hP 3 0 rfl rfl (by omega) (by decide) d_M_doubleArea_25 ?_
  refine lv_aload_n hx hb d_M_doubleArea_26 rfl (lv_at hl 2 rfl) ?_
  refine va_getN (D := (dC, dI)) (ci := 0) (v := .ref (a 4)) (C := R_P) (T := T_P) (N := 3) hx hb htb in_P hown hK hP 2 rfl rfl 1 (by decide) (htb _ wd_35) (fun _ h9 => h9) rfl d_M_doubleArea_27 ?_
  refine lv_iload_n hx hb d_M_doubleArea_30 rfl (lv_at hl 0 rfl) ?_
  refine ec_iald (f := py) (i := mc (3 * t + 2)) hx hb hK hP 4 0 rfl rfl (by omega) (by decide) d_M_doubleArea_31 ?_
  refine ec_vSl (C := "ExactMesh$Points") (ci := 0) (q := (R_P, T_P, 3)) (q0 := 2) (As := [.int (nI (mc (3 * t + 0))), .int (nI (mc (3 * t + 1))), .int (px (mc (3 * t + 2))), .int (py (mc (3 * t + 2)))]) (rest := []) ⟨hx, hb, hml, hown, htb⟩ (c_P_leftness l dC dI a cI cZ cJ pn px py ln lf lt lr sn sf st sr th hn qx qy mn mc mk mo mr rest (mc (3 * t + 0)) (mc (3 * t + 1)) (px (mc (3 * t + 2))) (py (mc (3 * t + 2))) g12 gN (by omega) (by omega)) kv_P_leftness hK hP rfl rfl rfl wd_354 ⟨Nat.le_of_ble_eq_true rfl, Nat.le_of_ble_eq_true rfl⟩ ⟨rfl, rfl⟩ rfl hl.1 rfl (Nat.le_of_ble_eq_true rfl) d_M_doubleArea_32 ⟨Nat.zero_le _, Nat.zero_le _⟩ (fun r32 hr32 => ?_)
  replace hr32 : r32.toInt = ec_lf (px (mc (3 * t + 0))).toInt (py (mc (3 * t + 0))).toInt (px (mc (3 * t + 1))).toInt (py (mc (3 * t + 1))).toInt (px (mc (3 * t + 2))).toInt (py (mc (3 * t + 2))).toInt := hr32
  exact W.lret hx hb hr (fun tS ht hW => ⟨_, rfl, hr32, ht⟩) (fun _ h => nomatch h) d_M_doubleArea_35

set_option maxRecDepth 100000 in
set_option maxHeartbeats 4000000 in
theorem c_M_trianglesAt (l : Launch) (dC : Nat → ClassId) (dI : Nat → Nat → Nat) (a : Nat → Nat) (cI cZ cJ : ClassId) (pn : Nat) (px : Nat → Int32) (py : Nat → Int32) (ln : Nat) (lf : Nat → Nat) (lt : Nat → Nat) (lr : Nat → Nat) (sn : Nat) (sf : Nat → Nat) (st : Nat → Nat) (sr : Nat → Nat) (th : Nat → Option Nat) (hn : Nat) (qx : Nat → Int32) (qy : Nat → Int32) (mn : Nat) (mc : Nat → Nat) (mk : Nat → Prop) (mo : Nat → Option Nat) (mr : Nat → Nat) (rest : va_W) (v : Int32) (gmn : mn ≤ 19) : Met l y_M_trianglesAt (Cond.code y_M_trianglesAt b_M_trianglesAt 4 (some .int) :: ec_tbl) ({ frames := 0, cells := 0, slots := 0, locals := 0 }) (va_Pc [.ref (a 17), .int v] (fun U => va_P (dC, dI) vwCl (wX a cI cZ cJ pn px py ln lf lt lr sn sf st sr th hn qx qy mn mc mk mo mr ++ rest) U.heap ∧ va_K (dC, dI) vwCl (ec_tys cI cZ cJ) U)) (vp_Si (fun r : Int32 => r = nI (ec_deg mc v (3 * mn)))) 0 0 (fun _ => False) := by
  refine Met.ofW (cc := b_M_trianglesAt) (maxL := 4) (ret := (some .int)) (by decide) rfl ?_
  intro p e s m args below meth c s₁ B hml hv0
  obtain ⟨rfl, hP, hK⟩ := hv0
  have hx := B.exec
  have hb := B.bytes
  have hr := B.returns
  have hts := atoms_spec (ws := (Cond.code y_M_trianglesAt b_M_trianglesAt 4 (some .int) :: ec_tbl)) B.pre
  have htb : ∀ w ∈ ec_tbl, w.before _ s = true := fun w h => hts w (List.mem_cons_of_mem _ h)
  clear hts
  have hown : s.vm.findClass "ExactMesh$CarvedMesh" = some m.cls := findClass_of_methodNamed B.named
  have hlocks := B.notSynchronized
  have hl := lv_entry ([.ref (a 17), .int v]) (n := 4) (Nat.le_of_ble_eq_true rfl)
  rw [lg_entry_eq]
  generalize (lg_sl ([.ref (a 17), .int v]) ++ List.replicate (4 - (lg_sl ([.ref (a 17), .int v])).length) Slot.unset).toArray = ls at hl ⊢
  replace hl : lv_has ls 4 [(0, .ref (a 17)), (1, .int v)] := hl
  refine lv_iconst (v := nI 0) hx hb d_M_trianglesAt_0 (by decide) ?_
  refine lv_istore_n hx hb d_M_trianglesAt_1 rfl hl (by decide) rfl (fun ls hl => ?_)
  replace hl : lv_has ls 4 [(2, .int (nI 0)), (0, .ref (a 17)), (1, .int v)] := hl
  refine lv_iconst (v := nI 0) hx hb d_M_trianglesAt_2 (by decide) ?_
  refine lv_istore_n hx hb d_M_trianglesAt_3 rfl hl (by decide) rfl (fun ls hl => ?_)
  replace hl : lv_has ls 4 [(3, .int (nI 0)), (2, .int (nI 0)), (0, .ref (a 17)), (1, .int v)] := hl
  obtain ⟨i, e_i⟩ : ∃ z : Nat, z = 0 := ⟨_, rfl⟩
  obtain ⟨f, e_f⟩ : ∃ z : Nat, z = 0 := ⟨_, rfl⟩
  replace hl : lv_has ls 4 [(0, .ref (a 17)), (1, .int v), (2, .int (nI f)), (3, .int (nI i))] := by (try simp only [e_i, e_f]); exact lv_sub hl [2, 3, 1, 0] rfl
  have hle : i ≤ 3 * mn := by omega
  have hf : f = ec_deg mc v i := by rw [e_i, e_f]; rfl
  clear e_f e_i
  generalize hk4 : 3 * mn - i = k4
  induction k4 using Nat.strongRecOn generalizing i f ls with
  | ind k4 ih4 =>
  refine lv_iload_n hx hb d_M_trianglesAt_4 rfl (lv_at hl 3 rfl) ?_
  refine lv_iconst (v := nI 3) hx hb d_M_trianglesAt_5 (by decide) ?_
  refine lv_aload_n hx hb d_M_trianglesAt_6 rfl (lv_at hl 0 rfl) ?_
  refine va_get (D := (dC, dI)) (ci := 3) (v := .int (nI mn)) (C := R_M) (T := T_M) (N := 5) hx hb htb in_M hown hK hP 17 rfl rfl 4 (by decide) (htb _ wd_99) (fun _ h9 => h9) rfl d_M_trianglesAt_7 ?_
  refine ec_imul hx hb d_M_trianglesAt_10 ?_
  refine ec_icmp_ge (tgt := 33) hx hb d_M_trianglesAt_11 rfl (by omega) (by omega) (fun h11 => ?_) (fun h11 => ?_)
  · refine lv_iload_n hx hb d_M_trianglesAt_33 rfl (lv_at hl 2 rfl) ?_
    exact W.iret hx hb hr (fun tS ht hW => ⟨_, rfl, (by rw [hf, show i = 3 * mn by omega]), ht⟩) (fun _ h => nomatch h) d_M_trianglesAt_34
  · refine lv_aload_n hx hb d_M_trianglesAt_14 rfl (lv_at hl 0 rfl) ?_
    refine va_get (D := (dC, dI)) (ci := 3) (v := .ref (a 18)) (C := R_M) (T := T_M) (N := 5) hx hb htb in_M hown hK hP 17 rfl rfl 0 (by decide) (htb _ wd_95) (fun _ h9 => h9) rfl d_M_trianglesAt_15 ?_
    refine lv_iload_n hx hb d_M_trianglesAt_18 rfl (lv_at hl 3 rfl) ?_
    refine ec_ialdN (f := mc) (i := i) hx hb hK hP 18 0 rfl rfl (by omega) (by decide) d_M_trianglesAt_19 ?_
    refine lv_iload_n hx hb d_M_trianglesAt_20 rfl (lv_at hl 1 rfl) ?_
    refine lv_icmp_ne (tgt := 27) hx hb d_M_trianglesAt_21 rfl (fun h21 => ?_) (fun h21 => ?_)
    · refine ec_iinc (k := 3) hx hb d_M_trianglesAt_27 hl rfl (by decide) rfl (fun ls hl => ?_)
      replace hl : lv_has ls 4 [(3, .int (nI (i + 1))), (0, .ref (a 17)), (1, .int v), (2, .int (nI f))] := hl
      refine lv_goto (tgt := 4) hx hb d_M_trianglesAt_30 rfl ?_
      exact ih4 _ (by omega) (i := i + 1) (f := f) (ls := ls) (hl := lv_sub hl [1, 2, 3, 0] rfl) (hle := (by omega)) (hf := (by unfold ec_deg; rw [hf, if_neg h21, Nat.add_zero])) (hk4 := rfl)
    · refine ec_iinc (k := 2) hx hb d_M_trianglesAt_24 hl rfl (by decide) rfl (fun ls hl => ?_)
      replace hl : lv_has ls 4 [(2, .int (nI (f + 1))), (0, .ref (a 17)), (1, .int v), (3, .int (nI i))] := hl
      refine ec_iinc (k := 3) hx hb d_M_trianglesAt_27 hl rfl (by decide) rfl (fun ls hl => ?_)
      replace hl : lv_has ls 4 [(3, .int (nI (i + 1))), (2, .int (nI (f + 1))), (0, .ref (a 17)), (1, .int v)] := hl
      refine lv_goto (tgt := 4) hx hb d_M_trianglesAt_30 rfl ?_
      exact ih4 _ (by omega) (i := i + 1) (f := f + 1) (ls := ls) (hl := lv_sub hl [2, 3, 1, 0] rfl) (hle := (by omega)) (hf := (by unfold ec_deg; rw [hf, if_pos h21])) (hk4 := rfl)

set_option maxRecDepth 100000 in
set_option maxHeartbeats 4000000 in
theorem c_M_openSides (l : Launch) (dC : Nat → ClassId) (dI : Nat → Nat → Nat) (a : Nat → Nat) (cI cZ cJ : ClassId) (pn : Nat) (px : Nat → Int32) (py : Nat → Int32) (ln : Nat) (lf : Nat → Nat) (lt : Nat → Nat) (lr : Nat → Nat) (sn : Nat) (sf : Nat → Nat) (st : Nat → Nat) (sr : Nat → Nat) (th : Nat → Option Nat) (hn : Nat) (qx : Nat → Int32) (qy : Nat → Int32) (mn : Nat) (mc : Nat → Nat) (mk : Nat → Prop) (mo : Nat → Option Nat) (mr : Nat → Nat) (rest : va_W) (g12 : pn ≤ 12) (gM : ec_MI pn mn mc mo mr) : Met l y_M_openSides (Cond.code y_M_openSides b_M_openSides 4 (some .int) :: ec_tbl) ({ frames := 3, cells := 0, slots := 0, locals := 66 }) (va_Pc [.ref (a 17)] (fun U => va_P (dC, dI) vwCl (wX a cI cZ cJ pn px py ln lf lt lr sn sf st sr th hn qx qy mn mc mk mo mr ++ rest) U.heap ∧ va_K (dC, dI) vwCl (ec_tys cI cZ cJ) U)) (vp_Si (fun r : Int32 => r = nI (ec_opn mc mo mn))) 0 0 (fun _ => False) := by
  refine Met.ofW (cc := b_M_openSides) (maxL := 4) (ret := (some .int)) (by decide) rfl ?_
  intro p e s m args below meth c s₁ B hml hv0
  obtain ⟨rfl, hP, hK⟩ := hv0
  have hx := B.exec
  have hb := B.bytes
  have hr := B.returns
  have hts := atoms_spec (ws := (Cond.code y_M_openSides b_M_openSides 4 (some .int) :: ec_tbl)) B.pre
  have htb : ∀ w ∈ ec_tbl, w.before _ s = true := fun w h => hts w (List.mem_cons_of_mem _ h)
  clear hts
  have hown : s.vm.findClass "ExactMesh$CarvedMesh" = some m.cls := findClass_of_methodNamed B.named
  have hlocks := B.notSynchronized
  have hl := lv_entry ([.ref (a 17)]) (n := 4) (Nat.le_of_ble_eq_true rfl)
  rw [lg_entry_eq]
  generalize (lg_sl ([.ref (a 17)]) ++ List.replicate (4 - (lg_sl ([.ref (a 17)])).length) Slot.unset).toArray = ls at hl ⊢
  replace hl : lv_has ls 4 [(0, .ref (a 17))] := hl
  have gmn := gM.1
  have gmc := gM.2.1
  have gow := gM.2.2.1
  have gmr := gM.2.2.2
  refine lv_iconst (v := nI 0) hx hb d_M_openSides_0 (by decide) ?_
  refine lv_istore_n hx hb d_M_openSides_1 rfl hl (by decide) rfl (fun ls hl => ?_)
  replace hl : lv_has ls 4 [(1, .int (nI 0)), (0, .ref (a 17))] := hl
  refine lv_iconst (v := nI 0) hx hb d_M_openSides_2 (by decide) ?_
  refine lv_istore_n hx hb d_M_openSides_3 rfl hl (by decide) rfl (fun ls hl => ?_)
  replace hl : lv_has ls 4 [(2, .int (nI 0)), (1, .int (nI 0)), (0, .ref (a 17))] := hl
  obtain ⟨t, e_t⟩ : ∃ z : Nat, z = 0 := ⟨_, rfl⟩
  obtain ⟨f, e_f⟩ : ∃ z : Nat, z = 0 := ⟨_, rfl⟩
  replace hl : lv_has ls 4 [(0, .ref (a 17)), (1, .int (nI f)), (2, .int (nI t))] := by (try simp only [e_t, e_f]); exact lv_sub hl [2, 1, 0] rfl
  have hle : t ≤ mn := by omega
  have hf : f = ec_opn mc mo t := by rw [e_t, e_f]; rfl
  clear e_f e_t
  generalize hk4 : mn - t = k4
  induction k4 using Nat.strongRecOn generalizing t f ls with
  | ind k4 ih4 =>
  refine lv_iload_n hx hb d_M_openSides_4 rfl (lv_at hl 2 rfl) ?_
  refine lv_aload_n hx hb d_M_openSides_5 rfl (lv_at hl 0 rfl) ?_
  refine va_get (D := (dC, dI)) (ci := 3) (v := .int (nI mn)) (C := R_M) (T := T_M) (N := 5) hx hb htb in_M hown hK hP 17 rfl rfl 4 (by decide) (htb _ wd_99) (fun _ h9 => h9) rfl d_M_openSides_6 ?_
  refine ec_icmp_ge (tgt := 44) hx hb d_M_openSides_9 rfl (by omega) (by omega) (fun h9 => ?_) (fun h9 => ?_)
  · refine lv_iload_n hx hb d_M_openSides_44 rfl (lv_at hl 1 rfl) ?_
    exact W.iret hx hb hr (fun tS ht hW => ⟨_, rfl, (by rw [hf, show t = mn by omega]), ht⟩) (fun _ h => nomatch h) d_M_openSides_45
  · have c0 := gmc (3 * t + 0) (by omega)
    have c1 := gmc (3 * t + 1) (by omega)
    have c2 := gmc (3 * t + 2) (by omega)
    have d0 : mc (3 * t + ec_nx 0) < pn := gmc (3 * t + ec_nx 0) (by have := ec_nx_lt (k := 0) (by omega); omega)
    have d1 : mc (3 * t + ec_nx 1) < pn := gmc (3 * t + ec_nx 1) (by have := ec_nx_lt (k := 1) (by omega); omega)
    have d2 : mc (3 * t + ec_nx 2) < pn := gmc (3 * t + ec_nx 2) (by have := ec_nx_lt (k := 2) (by omega); omega)
    refine lv_iconst (v := nI 0) hx hb d_M_openSides_12 (by decide) ?_
    refine lv_istore_n hx hb d_M_openSides_13 rfl hl (by decide) rfl (fun ls hl => ?_)
    replace hl : lv_has ls 4 [(3, .int (nI 0)), (0, .ref (a 17)), (1, .int (nI f)), (2, .int (nI t))] := hl
    refine lv_iload_n hx hb d_M_openSides_14 rfl (lv_at hl 0 rfl) ?_
    refine lv_iconst (v := nI 3) hx hb d_M_openSides_15 (by decide) ?_
    refine ec_icmp_ge (tgt := 38) hx hb d_M_openSides_16 rfl (by omega) (by omega) (fun h16 => ?_) (fun h16 => ?_)
    · exact absurd h16 (by decide)
    · refine lv_aload_n hx hb d_M_openSides_19 rfl (lv_at hl 1 rfl) ?_
      refine lv_iload_n hx hb d_M_openSides_20 rfl (lv_at hl 3 rfl) ?_
      refine lv_iload_n hx hb d_M_openSides_21 rfl (lv_at hl 0 rfl) ?_
      refine ec_vSi (C := "ExactMesh$CarvedMesh") (ci := 3) (q := (R_M, T_M, 5)) (q0 := 17) (As := [.int (nI t), .int (nI 0)]) (rest := []) ⟨hx, hb, hml, hown, htb⟩ (c_M_beyond l dC dI a cI cZ cJ pn px py ln lf lt lr sn sf st sr th hn qx qy mn mc mk mo mr rest t 0 g12 gM (by omega) (by omega)) kv_M_beyond hK hP rfl rfl rfl wd_359 ⟨Nat.le_of_ble_eq_true rfl, Nat.le_of_ble_eq_true rfl⟩ ⟨rfl, rfl⟩ rfl hl.1 rfl (Nat.le_of_ble_eq_true rfl) d_M_openSides_22 ⟨Nat.zero_le _, Nat.zero_le _⟩ (fun r22 hr22 => ?_)
      replace hr22 : r22 = ec_oi (ec_bey mc mo t 0) := hr22
      subst hr22
      refine lv_iconst (v := -1) hx hb d_M_openSides_25 (by decide) ?_
      refine ec_icmp_neO (o := ec_bey mc mo t 0) (tgt := 32) hx hb (fun j q => by have := ec_Ow_lt (gow (by omega)) (by omega) (by omega) q; omega) d_M_openSides_26 rfl (fun h26 => ?_) (fun h26 => ?_)
      · refine ec_iinc (k := 0) hx hb d_M_openSides_32 hl rfl (by decide) rfl (fun ls hl => ?_)
        replace hl : lv_has ls 4 [(3, .int (nI 1)), (0, .ref (a 17)), (1, .int (nI f)), (2, .int (nI t))] := hl
        refine lv_goto (tgt := 14) hx hb d_M_openSides_35 rfl ?_
        refine lv_iload_n hx hb d_M_openSides_14 rfl (lv_at hl 0 rfl) ?_
        refine lv_iconst (v := nI 3) hx hb d_M_openSides_15 (by decide) ?_
        refine ec_icmp_ge (tgt := 38) hx hb d_M_openSides_16 rfl (by omega) (by omega) (fun h16_1 => ?_) (fun h16_1 => ?_)
        · exact absurd h16_1 (by decide)
        · refine lv_aload_n hx hb d_M_openSides_19 rfl (lv_at hl 1 rfl) ?_
          refine lv_iload_n hx hb d_M_openSides_20 rfl (lv_at hl 3 rfl) ?_
          refine lv_iload_n hx hb d_M_openSides_21 rfl (lv_at hl 0 rfl) ?_
          refine ec_vSi (C := "ExactMesh$CarvedMesh") (ci := 3) (q := (R_M, T_M, 5)) (q0 := 17) (As := [.int (nI t), .int (nI 1)]) (rest := []) ⟨hx, hb, hml, hown, htb⟩ (c_M_beyond l dC dI a cI cZ cJ pn px py ln lf lt lr sn sf st sr th hn qx qy mn mc mk mo mr rest t 1 g12 gM (by omega) (by omega)) kv_M_beyond hK hP rfl rfl rfl wd_359 ⟨Nat.le_of_ble_eq_true rfl, Nat.le_of_ble_eq_true rfl⟩ ⟨rfl, rfl⟩ rfl hl.1 rfl (Nat.le_of_ble_eq_true rfl) d_M_openSides_22 ⟨Nat.zero_le _, Nat.zero_le _⟩ (fun r22_1 hr22_1 => ?_)
          replace hr22_1 : r22_1 = ec_oi (ec_bey mc mo t 1) := hr22_1
          subst hr22_1
          refine lv_iconst (v := -1) hx hb d_M_openSides_25 (by decide) ?_
          refine ec_icmp_neO (o := ec_bey mc mo t 1) (tgt := 32) hx hb (fun j q => by have := ec_Ow_lt (gow (by omega)) (by omega) (by omega) q; omega) d_M_openSides_26 rfl (fun h26_1 => ?_) (fun h26_1 => ?_)
          · refine ec_iinc (k := 0) hx hb d_M_openSides_32 hl rfl (by decide) rfl (fun ls hl => ?_)
            replace hl : lv_has ls 4 [(3, .int (nI 2)), (0, .ref (a 17)), (1, .int (nI f)), (2, .int (nI t))] := hl
            refine lv_goto (tgt := 14) hx hb d_M_openSides_35 rfl ?_
            refine lv_iload_n hx hb d_M_openSides_14 rfl (lv_at hl 0 rfl) ?_
            refine lv_iconst (v := nI 3) hx hb d_M_openSides_15 (by decide) ?_
            refine ec_icmp_ge (tgt := 38) hx hb d_M_openSides_16 rfl (by omega) (by omega) (fun h16_2 => ?_) (fun h16_2 => ?_)
            · exact absurd h16_2 (by decide)
            · refine lv_aload_n hx hb d_M_openSides_19 rfl (lv_at hl 1 rfl) ?_
              refine lv_iload_n hx hb d_M_openSides_20 rfl (lv_at hl 3 rfl) ?_
              refine lv_iload_n hx hb d_M_openSides_21 rfl (lv_at hl 0 rfl) ?_
              refine ec_vSi (C := "ExactMesh$CarvedMesh") (ci := 3) (q := (R_M, T_M, 5)) (q0 := 17) (As := [.int (nI t), .int (nI 2)]) (rest := []) ⟨hx, hb, hml, hown, htb⟩ (c_M_beyond l dC dI a cI cZ cJ pn px py ln lf lt lr sn sf st sr th hn qx qy mn mc mk mo mr rest t 2 g12 gM (by omega) (by omega)) kv_M_beyond hK hP rfl rfl rfl wd_359 ⟨Nat.le_of_ble_eq_true rfl, Nat.le_of_ble_eq_true rfl⟩ ⟨rfl, rfl⟩ rfl hl.1 rfl (Nat.le_of_ble_eq_true rfl) d_M_openSides_22 ⟨Nat.zero_le _, Nat.zero_le _⟩ (fun r22_2 hr22_2 => ?_)
              replace hr22_2 : r22_2 = ec_oi (ec_bey mc mo t 2) := hr22_2
              subst hr22_2
              refine lv_iconst (v := -1) hx hb d_M_openSides_25 (by decide) ?_
              refine ec_icmp_neO (o := ec_bey mc mo t 2) (tgt := 32) hx hb (fun j q => by have := ec_Ow_lt (gow (by omega)) (by omega) (by omega) q; omega) d_M_openSides_26 rfl (fun h26_2 => ?_) (fun h26_2 => ?_)
              · refine ec_iinc (k := 0) hx hb d_M_openSides_32 hl rfl (by decide) rfl (fun ls hl => ?_)
                replace hl : lv_has ls 4 [(3, .int (nI 3)), (0, .ref (a 17)), (1, .int (nI f)), (2, .int (nI t))] := hl
                refine lv_goto (tgt := 14) hx hb d_M_openSides_35 rfl ?_
                refine lv_iload_n hx hb d_M_openSides_14 rfl (lv_at hl 0 rfl) ?_
                refine lv_iconst (v := nI 3) hx hb d_M_openSides_15 (by decide) ?_
                refine ec_icmp_ge (tgt := 38) hx hb d_M_openSides_16 rfl (by omega) (by omega) (fun h16_3 => ?_) (fun h16_3 => ?_)
                · refine ec_iinc (k := 3) hx hb d_M_openSides_38 hl rfl (by decide) rfl (fun ls hl => ?_)
                  replace hl : lv_has ls 4 [(2, .int (nI (t + 1))), (3, .int (nI 3)), (0, .ref (a 17)), (1, .int (nI f))] := hl
                  refine lv_goto (tgt := 4) hx hb d_M_openSides_41 rfl ?_
                  exact ih4 _ (by omega) (t := t + 1) (f := f) (ls := ls) (hl := lv_sub hl [2, 3, 0] rfl) (hle := (by omega)) (hf := (by simp only [ec_opn, ec_op1]; rw [if_neg (ec_nn h26), if_neg (ec_nn h26_1), if_neg (ec_nn h26_2)]; omega)) (hk4 := rfl)
                · exact absurd h16_3 (by decide)
              · refine ec_iinc (k := 2) hx hb d_M_openSides_29 hl rfl (by decide) rfl (fun ls hl => ?_)
                replace hl : lv_has ls 4 [(1, .int (nI (f + 1))), (3, .int (nI 2)), (0, .ref (a 17)), (2, .int (nI t))] := hl
                refine ec_iinc (k := 1) hx hb d_M_openSides_32 hl rfl (by decide) rfl (fun ls hl => ?_)
                replace hl : lv_has ls 4 [(3, .int (nI 3)), (1, .int (nI (f + 1))), (0, .ref (a 17)), (2, .int (nI t))] := hl
                refine lv_goto (tgt := 14) hx hb d_M_openSides_35 rfl ?_
                refine lv_iload_n hx hb d_M_openSides_14 rfl (lv_at hl 0 rfl) ?_
                refine lv_iconst (v := nI 3) hx hb d_M_openSides_15 (by decide) ?_
                refine ec_icmp_ge (tgt := 38) hx hb d_M_openSides_16 rfl (by omega) (by omega) (fun h16_4 => ?_) (fun h16_4 => ?_)
                · refine ec_iinc (k := 3) hx hb d_M_openSides_38 hl rfl (by decide) rfl (fun ls hl => ?_)
                  replace hl : lv_has ls 4 [(2, .int (nI (t + 1))), (3, .int (nI 3)), (1, .int (nI (f + 1))), (0, .ref (a 17))] := hl
                  refine lv_goto (tgt := 4) hx hb d_M_openSides_41 rfl ?_
                  exact ih4 _ (by omega) (t := t + 1) (f := f + 1) (ls := ls) (hl := lv_sub hl [3, 2, 0] rfl) (hle := (by omega)) (hf := (by simp only [ec_opn, ec_op1]; rw [if_neg (ec_nn h26), if_neg (ec_nn h26_1), if_pos h26_2]; omega)) (hk4 := rfl)
                · exact absurd h16_4 (by decide)
          · refine ec_iinc (k := 2) hx hb d_M_openSides_29 hl rfl (by decide) rfl (fun ls hl => ?_)
            replace hl : lv_has ls 4 [(1, .int (nI (f + 1))), (3, .int (nI 1)), (0, .ref (a 17)), (2, .int (nI t))] := hl
            refine ec_iinc (k := 1) hx hb d_M_openSides_32 hl rfl (by decide) rfl (fun ls hl => ?_)
            replace hl : lv_has ls 4 [(3, .int (nI 2)), (1, .int (nI (f + 1))), (0, .ref (a 17)), (2, .int (nI t))] := hl
            refine lv_goto (tgt := 14) hx hb d_M_openSides_35 rfl ?_
            refine lv_iload_n hx hb d_M_openSides_14 rfl (lv_at hl 0 rfl) ?_
            refine lv_iconst (v := nI 3) hx hb d_M_openSides_15 (by decide) ?_
            refine ec_icmp_ge (tgt := 38) hx hb d_M_openSides_16 rfl (by omega) (by omega) (fun h16_5 => ?_) (fun h16_5 => ?_)
            · exact absurd h16_5 (by decide)
            · refine lv_aload_n hx hb d_M_openSides_19 rfl (lv_at hl 2 rfl) ?_
              refine lv_iload_n hx hb d_M_openSides_20 rfl (lv_at hl 3 rfl) ?_
              refine lv_iload_n hx hb d_M_openSides_21 rfl (lv_at hl 0 rfl) ?_
              refine ec_vSi (C := "ExactMesh$CarvedMesh") (ci := 3) (q := (R_M, T_M, 5)) (q0 := 17) (As := [.int (nI t), .int (nI 2)]) (rest := []) ⟨hx, hb, hml, hown, htb⟩ (c_M_beyond l dC dI a cI cZ cJ pn px py ln lf lt lr sn sf st sr th hn qx qy mn mc mk mo mr rest t 2 g12 gM (by omega) (by omega)) kv_M_beyond hK hP rfl rfl rfl wd_359 ⟨Nat.le_of_ble_eq_true rfl, Nat.le_of_ble_eq_true rfl⟩ ⟨rfl, rfl⟩ rfl hl.1 rfl (Nat.le_of_ble_eq_true rfl) d_M_openSides_22 ⟨Nat.zero_le _, Nat.zero_le _⟩ (fun r22_3 hr22_3 => ?_)
              replace hr22_3 : r22_3 = ec_oi (ec_bey mc mo t 2) := hr22_3
              subst hr22_3
              refine lv_iconst (v := -1) hx hb d_M_openSides_25 (by decide) ?_
              refine ec_icmp_neO (o := ec_bey mc mo t 2) (tgt := 32) hx hb (fun j q => by have := ec_Ow_lt (gow (by omega)) (by omega) (by omega) q; omega) d_M_openSides_26 rfl (fun h26_3 => ?_) (fun h26_3 => ?_)
              · refine ec_iinc (k := 0) hx hb d_M_openSides_32 hl rfl (by decide) rfl (fun ls hl => ?_)
                replace hl : lv_has ls 4 [(3, .int (nI 3)), (1, .int (nI (f + 1))), (0, .ref (a 17)), (2, .int (nI t))] := hl
                refine lv_goto (tgt := 14) hx hb d_M_openSides_35 rfl ?_
                refine lv_iload_n hx hb d_M_openSides_14 rfl (lv_at hl 0 rfl) ?_
                refine lv_iconst (v := nI 3) hx hb d_M_openSides_15 (by decide) ?_
                refine ec_icmp_ge (tgt := 38) hx hb d_M_openSides_16 rfl (by omega) (by omega) (fun h16_6 => ?_) (fun h16_6 => ?_)
                · refine ec_iinc (k := 3) hx hb d_M_openSides_38 hl rfl (by decide) rfl (fun ls hl => ?_)
                  replace hl : lv_has ls 4 [(2, .int (nI (t + 1))), (3, .int (nI 3)), (1, .int (nI (f + 1))), (0, .ref (a 17))] := hl
                  refine lv_goto (tgt := 4) hx hb d_M_openSides_41 rfl ?_
                  exact ih4 _ (by omega) (t := t + 1) (f := f + 1) (ls := ls) (hl := lv_sub hl [3, 2, 0] rfl) (hle := (by omega)) (hf := (by simp only [ec_opn, ec_op1]; rw [if_neg (ec_nn h26), if_pos h26_1, if_neg (ec_nn h26_3)]; omega)) (hk4 := rfl)
                · exact absurd h16_6 (by decide)
              · refine ec_iinc (k := 1) hx hb d_M_openSides_29 hl rfl (by decide) rfl (fun ls hl => ?_)
                replace hl : lv_has ls 4 [(1, .int (nI (f + 1 + 1))), (3, .int (nI 2)), (0, .ref (a 17)), (2, .int (nI t))] := hl
                refine ec_iinc (k := 1) hx hb d_M_openSides_32 hl rfl (by decide) rfl (fun ls hl => ?_)
                replace hl : lv_has ls 4 [(3, .int (nI 3)), (1, .int (nI (f + 1 + 1))), (0, .ref (a 17)), (2, .int (nI t))] := hl
                refine lv_goto (tgt := 14) hx hb d_M_openSides_35 rfl ?_
                refine lv_iload_n hx hb d_M_openSides_14 rfl (lv_at hl 0 rfl) ?_
                refine lv_iconst (v := nI 3) hx hb d_M_openSides_15 (by decide) ?_
                refine ec_icmp_ge (tgt := 38) hx hb d_M_openSides_16 rfl (by omega) (by omega) (fun h16_7 => ?_) (fun h16_7 => ?_)
                · refine ec_iinc (k := 3) hx hb d_M_openSides_38 hl rfl (by decide) rfl (fun ls hl => ?_)
                  replace hl : lv_has ls 4 [(2, .int (nI (t + 1))), (3, .int (nI 3)), (1, .int (nI (f + 1 + 1))), (0, .ref (a 17))] := hl
                  refine lv_goto (tgt := 4) hx hb d_M_openSides_41 rfl ?_
                  exact ih4 _ (by omega) (t := t + 1) (f := f + 1 + 1) (ls := ls) (hl := lv_sub hl [3, 2, 0] rfl) (hle := (by omega)) (hf := (by simp only [ec_opn, ec_op1]; rw [if_neg (ec_nn h26), if_pos h26_1, if_pos h26_3]; omega)) (hk4 := rfl)
                · exact absurd h16_7 (by decide)
      · refine ec_iinc (k := 2) hx hb d_M_openSides_29 hl rfl (by decide) rfl (fun ls hl => ?_)
        replace hl : lv_has ls 4 [(1, .int (nI (f + 1))), (3, .int (nI 0)), (0, .ref (a 17)), (2, .int (nI t))] := hl
        refine ec_iinc (k := 1) hx hb d_M_openSides_32 hl rfl (by decide) rfl (fun ls hl => ?_)
        replace hl : lv_has ls 4 [(3, .int (nI 1)), (1, .int (nI (f + 1))), (0, .ref (a 17)), (2, .int (nI t))] := hl
        refine lv_goto (tgt := 14) hx hb d_M_openSides_35 rfl ?_
        refine lv_iload_n hx hb d_M_openSides_14 rfl (lv_at hl 0 rfl) ?_
        refine lv_iconst (v := nI 3) hx hb d_M_openSides_15 (by decide) ?_
        refine ec_icmp_ge (tgt := 38) hx hb d_M_openSides_16 rfl (by omega) (by omega) (fun h16_8 => ?_) (fun h16_8 => ?_)
        · exact absurd h16_8 (by decide)
        · refine lv_aload_n hx hb d_M_openSides_19 rfl (lv_at hl 2 rfl) ?_
          refine lv_iload_n hx hb d_M_openSides_20 rfl (lv_at hl 3 rfl) ?_
          refine lv_iload_n hx hb d_M_openSides_21 rfl (lv_at hl 0 rfl) ?_
          refine ec_vSi (C := "ExactMesh$CarvedMesh") (ci := 3) (q := (R_M, T_M, 5)) (q0 := 17) (As := [.int (nI t), .int (nI 1)]) (rest := []) ⟨hx, hb, hml, hown, htb⟩ (c_M_beyond l dC dI a cI cZ cJ pn px py ln lf lt lr sn sf st sr th hn qx qy mn mc mk mo mr rest t 1 g12 gM (by omega) (by omega)) kv_M_beyond hK hP rfl rfl rfl wd_359 ⟨Nat.le_of_ble_eq_true rfl, Nat.le_of_ble_eq_true rfl⟩ ⟨rfl, rfl⟩ rfl hl.1 rfl (Nat.le_of_ble_eq_true rfl) d_M_openSides_22 ⟨Nat.zero_le _, Nat.zero_le _⟩ (fun r22_4 hr22_4 => ?_)
          replace hr22_4 : r22_4 = ec_oi (ec_bey mc mo t 1) := hr22_4
          subst hr22_4
          refine lv_iconst (v := -1) hx hb d_M_openSides_25 (by decide) ?_
          refine ec_icmp_neO (o := ec_bey mc mo t 1) (tgt := 32) hx hb (fun j q => by have := ec_Ow_lt (gow (by omega)) (by omega) (by omega) q; omega) d_M_openSides_26 rfl (fun h26_4 => ?_) (fun h26_4 => ?_)
          · refine ec_iinc (k := 0) hx hb d_M_openSides_32 hl rfl (by decide) rfl (fun ls hl => ?_)
            replace hl : lv_has ls 4 [(3, .int (nI 2)), (1, .int (nI (f + 1))), (0, .ref (a 17)), (2, .int (nI t))] := hl
            refine lv_goto (tgt := 14) hx hb d_M_openSides_35 rfl ?_
            refine lv_iload_n hx hb d_M_openSides_14 rfl (lv_at hl 0 rfl) ?_
            refine lv_iconst (v := nI 3) hx hb d_M_openSides_15 (by decide) ?_
            refine ec_icmp_ge (tgt := 38) hx hb d_M_openSides_16 rfl (by omega) (by omega) (fun h16_9 => ?_) (fun h16_9 => ?_)
            · exact absurd h16_9 (by decide)
            · refine lv_aload_n hx hb d_M_openSides_19 rfl (lv_at hl 2 rfl) ?_
              refine lv_iload_n hx hb d_M_openSides_20 rfl (lv_at hl 3 rfl) ?_
              refine lv_iload_n hx hb d_M_openSides_21 rfl (lv_at hl 0 rfl) ?_
              refine ec_vSi (C := "ExactMesh$CarvedMesh") (ci := 3) (q := (R_M, T_M, 5)) (q0 := 17) (As := [.int (nI t), .int (nI 2)]) (rest := []) ⟨hx, hb, hml, hown, htb⟩ (c_M_beyond l dC dI a cI cZ cJ pn px py ln lf lt lr sn sf st sr th hn qx qy mn mc mk mo mr rest t 2 g12 gM (by omega) (by omega)) kv_M_beyond hK hP rfl rfl rfl wd_359 ⟨Nat.le_of_ble_eq_true rfl, Nat.le_of_ble_eq_true rfl⟩ ⟨rfl, rfl⟩ rfl hl.1 rfl (Nat.le_of_ble_eq_true rfl) d_M_openSides_22 ⟨Nat.zero_le _, Nat.zero_le _⟩ (fun r22_5 hr22_5 => ?_)
              replace hr22_5 : r22_5 = ec_oi (ec_bey mc mo t 2) := hr22_5
              subst hr22_5
              refine lv_iconst (v := -1) hx hb d_M_openSides_25 (by decide) ?_
              refine ec_icmp_neO (o := ec_bey mc mo t 2) (tgt := 32) hx hb (fun j q => by have := ec_Ow_lt (gow (by omega)) (by omega) (by omega) q; omega) d_M_openSides_26 rfl (fun h26_5 => ?_) (fun h26_5 => ?_)
              · refine ec_iinc (k := 0) hx hb d_M_openSides_32 hl rfl (by decide) rfl (fun ls hl => ?_)
                replace hl : lv_has ls 4 [(3, .int (nI 3)), (1, .int (nI (f + 1))), (0, .ref (a 17)), (2, .int (nI t))] := hl
                refine lv_goto (tgt := 14) hx hb d_M_openSides_35 rfl ?_
                refine lv_iload_n hx hb d_M_openSides_14 rfl (lv_at hl 0 rfl) ?_
                refine lv_iconst (v := nI 3) hx hb d_M_openSides_15 (by decide) ?_
                refine ec_icmp_ge (tgt := 38) hx hb d_M_openSides_16 rfl (by omega) (by omega) (fun h16_10 => ?_) (fun h16_10 => ?_)
                · refine ec_iinc (k := 3) hx hb d_M_openSides_38 hl rfl (by decide) rfl (fun ls hl => ?_)
                  replace hl : lv_has ls 4 [(2, .int (nI (t + 1))), (3, .int (nI 3)), (1, .int (nI (f + 1))), (0, .ref (a 17))] := hl
                  refine lv_goto (tgt := 4) hx hb d_M_openSides_41 rfl ?_
                  exact ih4 _ (by omega) (t := t + 1) (f := f + 1) (ls := ls) (hl := lv_sub hl [3, 2, 0] rfl) (hle := (by omega)) (hf := (by simp only [ec_opn, ec_op1]; rw [if_pos h26, if_neg (ec_nn h26_4), if_neg (ec_nn h26_5)]; omega)) (hk4 := rfl)
                · exact absurd h16_10 (by decide)
              · refine ec_iinc (k := 1) hx hb d_M_openSides_29 hl rfl (by decide) rfl (fun ls hl => ?_)
                replace hl : lv_has ls 4 [(1, .int (nI (f + 1 + 1))), (3, .int (nI 2)), (0, .ref (a 17)), (2, .int (nI t))] := hl
                refine ec_iinc (k := 1) hx hb d_M_openSides_32 hl rfl (by decide) rfl (fun ls hl => ?_)
                replace hl : lv_has ls 4 [(3, .int (nI 3)), (1, .int (nI (f + 1 + 1))), (0, .ref (a 17)), (2, .int (nI t))] := hl
                refine lv_goto (tgt := 14) hx hb d_M_openSides_35 rfl ?_
                refine lv_iload_n hx hb d_M_openSides_14 rfl (lv_at hl 0 rfl) ?_
                refine lv_iconst (v := nI 3) hx hb d_M_openSides_15 (by decide) ?_
                refine ec_icmp_ge (tgt := 38) hx hb d_M_openSides_16 rfl (by omega) (by omega) (fun h16_11 => ?_) (fun h16_11 => ?_)
                · refine ec_iinc (k := 3) hx hb d_M_openSides_38 hl rfl (by decide) rfl (fun ls hl => ?_)
                  replace hl : lv_has ls 4 [(2, .int (nI (t + 1))), (3, .int (nI 3)), (1, .int (nI (f + 1 + 1))), (0, .ref (a 17))] := hl
                  refine lv_goto (tgt := 4) hx hb d_M_openSides_41 rfl ?_
                  exact ih4 _ (by omega) (t := t + 1) (f := f + 1 + 1) (ls := ls) (hl := lv_sub hl [3, 2, 0] rfl) (hle := (by omega)) (hf := (by simp only [ec_opn, ec_op1]; rw [if_pos h26, if_neg (ec_nn h26_4), if_pos h26_5]; omega)) (hk4 := rfl)
                · exact absurd h16_11 (by decide)
          · refine ec_iinc (k := 1) hx hb d_M_openSides_29 hl rfl (by decide) rfl (fun ls hl => ?_)
            replace hl : lv_has ls 4 [(1, .int (nI (f + 1 + 1))), (3, .int (nI 1)), (0, .ref (a 17)), (2, .int (nI t))] := hl
            refine ec_iinc (k := 1) hx hb d_M_openSides_32 hl rfl (by decide) rfl (fun ls hl => ?_)
            replace hl : lv_has ls 4 [(3, .int (nI 2)), (1, .int (nI (f + 1 + 1))), (0, .ref (a 17)), (2, .int (nI t))] := hl
            refine lv_goto (tgt := 14) hx hb d_M_openSides_35 rfl ?_
            refine lv_iload_n hx hb d_M_openSides_14 rfl (lv_at hl 0 rfl) ?_
            refine lv_iconst (v := nI 3) hx hb d_M_openSides_15 (by decide) ?_
            refine ec_icmp_ge (tgt := 38) hx hb d_M_openSides_16 rfl (by omega) (by omega) (fun h16_12 => ?_) (fun h16_12 => ?_)
            · exact absurd h16_12 (by decide)
            · refine lv_aload_n hx hb d_M_openSides_19 rfl (lv_at hl 2 rfl) ?_
              refine lv_iload_n hx hb d_M_openSides_20 rfl (lv_at hl 3 rfl) ?_
              refine lv_iload_n hx hb d_M_openSides_21 rfl (lv_at hl 0 rfl) ?_
              refine ec_vSi (C := "ExactMesh$CarvedMesh") (ci := 3) (q := (R_M, T_M, 5)) (q0 := 17) (As := [.int (nI t), .int (nI 2)]) (rest := []) ⟨hx, hb, hml, hown, htb⟩ (c_M_beyond l dC dI a cI cZ cJ pn px py ln lf lt lr sn sf st sr th hn qx qy mn mc mk mo mr rest t 2 g12 gM (by omega) (by omega)) kv_M_beyond hK hP rfl rfl rfl wd_359 ⟨Nat.le_of_ble_eq_true rfl, Nat.le_of_ble_eq_true rfl⟩ ⟨rfl, rfl⟩ rfl hl.1 rfl (Nat.le_of_ble_eq_true rfl) d_M_openSides_22 ⟨Nat.zero_le _, Nat.zero_le _⟩ (fun r22_6 hr22_6 => ?_)
              replace hr22_6 : r22_6 = ec_oi (ec_bey mc mo t 2) := hr22_6
              subst hr22_6
              refine lv_iconst (v := -1) hx hb d_M_openSides_25 (by decide) ?_
              refine ec_icmp_neO (o := ec_bey mc mo t 2) (tgt := 32) hx hb (fun j q => by have := ec_Ow_lt (gow (by omega)) (by omega) (by omega) q; omega) d_M_openSides_26 rfl (fun h26_6 => ?_) (fun h26_6 => ?_)
              · refine ec_iinc (k := 0) hx hb d_M_openSides_32 hl rfl (by decide) rfl (fun ls hl => ?_)
                replace hl : lv_has ls 4 [(3, .int (nI 3)), (1, .int (nI (f + 1 + 1))), (0, .ref (a 17)), (2, .int (nI t))] := hl
                refine lv_goto (tgt := 14) hx hb d_M_openSides_35 rfl ?_
                refine lv_iload_n hx hb d_M_openSides_14 rfl (lv_at hl 0 rfl) ?_
                refine lv_iconst (v := nI 3) hx hb d_M_openSides_15 (by decide) ?_
                refine ec_icmp_ge (tgt := 38) hx hb d_M_openSides_16 rfl (by omega) (by omega) (fun h16_13 => ?_) (fun h16_13 => ?_)
                · refine ec_iinc (k := 3) hx hb d_M_openSides_38 hl rfl (by decide) rfl (fun ls hl => ?_)
                  replace hl : lv_has ls 4 [(2, .int (nI (t + 1))), (3, .int (nI 3)), (1, .int (nI (f + 1 + 1))), (0, .ref (a 17))] := hl
                  refine lv_goto (tgt := 4) hx hb d_M_openSides_41 rfl ?_
                  exact ih4 _ (by omega) (t := t + 1) (f := f + 1 + 1) (ls := ls) (hl := lv_sub hl [3, 2, 0] rfl) (hle := (by omega)) (hf := (by simp only [ec_opn, ec_op1]; rw [if_pos h26, if_pos h26_4, if_neg (ec_nn h26_6)]; omega)) (hk4 := rfl)
                · exact absurd h16_13 (by decide)
              · refine ec_iinc (k := 1) hx hb d_M_openSides_29 hl rfl (by decide) rfl (fun ls hl => ?_)
                replace hl : lv_has ls 4 [(1, .int (nI (f + 1 + 1 + 1))), (3, .int (nI 2)), (0, .ref (a 17)), (2, .int (nI t))] := hl
                refine ec_iinc (k := 1) hx hb d_M_openSides_32 hl rfl (by decide) rfl (fun ls hl => ?_)
                replace hl : lv_has ls 4 [(3, .int (nI 3)), (1, .int (nI (f + 1 + 1 + 1))), (0, .ref (a 17)), (2, .int (nI t))] := hl
                refine lv_goto (tgt := 14) hx hb d_M_openSides_35 rfl ?_
                refine lv_iload_n hx hb d_M_openSides_14 rfl (lv_at hl 0 rfl) ?_
                refine lv_iconst (v := nI 3) hx hb d_M_openSides_15 (by decide) ?_
                refine ec_icmp_ge (tgt := 38) hx hb d_M_openSides_16 rfl (by omega) (by omega) (fun h16_14 => ?_) (fun h16_14 => ?_)
                · refine ec_iinc (k := 3) hx hb d_M_openSides_38 hl rfl (by decide) rfl (fun ls hl => ?_)
                  replace hl : lv_has ls 4 [(2, .int (nI (t + 1))), (3, .int (nI 3)), (1, .int (nI (f + 1 + 1 + 1))), (0, .ref (a 17))] := hl
                  refine lv_goto (tgt := 4) hx hb d_M_openSides_41 rfl ?_
                  exact ih4 _ (by omega) (t := t + 1) (f := f + 1 + 1 + 1) (ls := ls) (hl := lv_sub hl [3, 2, 0] rfl) (hle := (by omega)) (hf := (by simp only [ec_opn, ec_op1]; rw [if_pos h26, if_pos h26_4, if_pos h26_6]; omega)) (hk4 := rfl)
                · exact absurd h16_14 (by decide)

set_option maxRecDepth 100000 in
set_option maxHeartbeats 4000000 in
theorem c_M_clear (l : Launch) (dC : Nat → ClassId) (dI : Nat → Nat → Nat) (a : Nat → Nat) (cI cZ cJ : ClassId) (pn : Nat) (px : Nat → Int32) (py : Nat → Int32) (ln : Nat) (lf : Nat → Nat) (lt : Nat → Nat) (lr : Nat → Nat) (sn : Nat) (sf : Nat → Nat) (st : Nat → Nat) (sr : Nat → Nat) (th : Nat → Option Nat) (hn : Nat) (qx : Nat → Int32) (qy : Nat → Int32) (mn : Nat) (mc : Nat → Nat) (mk : Nat → Prop) (mo : Nat → Option Nat) (mr : Nat → Nat) (rest : va_W) (A : Nat → Prop) (hD : va_D A (wX a cI cZ cJ pn px py ln lf lt lr sn sf st sr th hn qx qy mn mc mk mo mr ++ rest)) : Met l y_M_clear (Cond.code y_M_clear b_M_clear 1 none :: ec_tbl) ({ frames := 1, cells := 0, slots := 0, locals := 23 }) (va_Pc [.ref (a 17)] (fun U => va_P (dC, dI) vwCl (wX a cI cZ cJ pn px py ln lf lt lr sn sf st sr th hn qx qy mn mc mk mo mr ++ rest) U.heap ∧ va_K (dC, dI) vwCl (ec_tys cI cZ cJ) U)) (va_Qv (fun (u : Nat → Option Nat) => ∀ j, j < 144 → u j = none) (fun u t => va_P (dC, dI) vwCl (wX a cI cZ cJ pn px py ln lf lt lr sn sf st sr th hn qx qy 0 mc mk u mr ++ rest) t.heap) A) 0 0 A := by
  refine Met.ofW (cc := b_M_clear) (maxL := 1) (ret := none) (by decide) rfl ?_
  intro p e s m args below meth c s₁ B hml hv0
  obtain ⟨rfl, hP, hK⟩ := hv0
  have hx := B.exec
  have hb := B.bytes
  have hr := B.returns
  have hts := atoms_spec (ws := (Cond.code y_M_clear b_M_clear 1 none :: ec_tbl)) B.pre
  have htb : ∀ w ∈ ec_tbl, w.before _ s = true := fun w h => hts w (List.mem_cons_of_mem _ h)
  clear hts
  have hown : s.vm.findClass "ExactMesh$CarvedMesh" = some m.cls := findClass_of_methodNamed B.named
  have hlocks := B.notSynchronized
  have hl := lv_entry ([.ref (a 17)]) (n := 1) (Nat.le_of_ble_eq_true rfl)
  rw [lg_entry_eq]
  generalize (lg_sl ([.ref (a 17)]) ++ List.replicate (1 - (lg_sl ([.ref (a 17)])).length) Slot.unset).toArray = ls at hl ⊢
  replace hl : lv_has ls 1 [(0, .ref (a 17))] := hl
  refine ec_start (fun H locs hH hlocs => ?_)
  replace hP : va_P (dC, dI) vwCl (wX a cI cZ cJ pn px py ln lf lt lr sn sf st sr th hn qx qy mn mc mk mo mr ++ rest) H := by rw [hH]; exact hP
  have hS : va_S A s.heap H locs := by rw [hH, hlocs]; exact va_S.rf
  clear hH hlocs
  refine lv_aload_n hx hb d_M_clear_0 rfl (lv_at hl 0 rfl) ?_
  refine va_get (D := (dC, dI)) (ci := 3) (v := .ref (a 20)) (C := R_M) (T := T_M) (N := 5) hx hb htb in_M hown hK hP 17 rfl rfl 2 (by decide) (htb _ wd_97) (fun _ h9 => h9) rfl d_M_clear_1 ?_
  refine lv_iconst (v := -1) hx hb d_M_clear_4 (by decide) ?_
  refine ec_sQv (As := [.ref (a 20), .int (-1)]) (rest := []) ⟨hx, hb, hml, hown, htb⟩ (c_fill_mo l dC dI a cI cZ cJ pn px py ln lf lt lr sn sf st sr th hn qx qy mn mc mk mo mr rest A hD) ks_JA_fill hK hP hS wd_332 ⟨Nat.le_of_ble_eq_true rfl, Nat.le_of_ble_eq_true rfl⟩ ⟨rfl, rfl⟩ rfl hl.1 rfl (Nat.le_of_ble_eq_true rfl) d_M_clear_5 ⟨Nat.zero_le _, Nat.zero_le _⟩ (fun ur5 H locs hr5 hP hS => ?_)
  replace hr5 : ∀ j, j < 144 → ur5 j = none := hr5
  replace hP : va_P (dC, dI) vwCl (wX a cI cZ cJ pn px py ln lf lt lr sn sf st sr th hn qx qy mn mc mk ur5 mr ++ rest) H := hP
  replace hD : va_D A (wX a cI cZ cJ pn px py ln lf lt lr sn sf st sr th hn qx qy mn mc mk ur5 mr ++ rest) := ec_Dk hD rfl
  refine lv_aload_n hx hb d_M_clear_8 rfl (lv_at hl 0 rfl) ?_
  refine lv_iconst (v := nI 0) hx hb d_M_clear_9 (by decide) ?_
  refine va_put (D := (dC, dI)) (ci := 3) (v := .int (nI 0)) (ty := .int) (C := R_M) (T := T_M) (N := 5) hx hb htb in_M t_M ty_M nm_M hown hK hP hD hS 17 rfl rfl 4 (by decide) (htb _ wd_99) (fun _ h9 => h9) rfl (by decide +kernel) rfl rfl (Nat.le_of_ble_eq_true rfl) d_M_clear_10 (fun H locs hP hD hS => ?_)
  replace hP : va_P (dC, dI) vwCl (wX a cI cZ cJ pn px py ln lf lt lr sn sf st sr th hn qx qy 0 mc mk ur5 mr ++ rest) H := hP
  replace hD : va_D A (wX a cI cZ cJ pn px py ln lf lt lr sn sf st sr th hn qx qy 0 mc mk ur5 mr ++ rest) := hD
  exact W.vret hx hb hr (fun tS ht hW => ⟨⟨ur5, rfl, hr5, by show va_P _ _ _ tS.heap; rw [ht]; exact hP⟩, hS.F ht⟩) hS.2.2 d_M_clear_13

set_option maxRecDepth 100000 in
set_option maxHeartbeats 4000000 in
theorem c_M_add (l : Launch) (dC : Nat → ClassId) (dI : Nat → Nat → Nat) (a : Nat → Nat) (cI cZ cJ : ClassId) (pn : Nat) (px : Nat → Int32) (py : Nat → Int32) (ln : Nat) (lf : Nat → Nat) (lt : Nat → Nat) (lr : Nat → Nat) (sn : Nat) (sf : Nat → Nat) (st : Nat → Nat) (sr : Nat → Nat) (th : Nat → Option Nat) (hn : Nat) (qx : Nat → Int32) (qy : Nat → Int32) (mn : Nat) (mc : Nat → Nat) (mk : Nat → Prop) (mo : Nat → Option Nat) (mr : Nat → Nat) (rest : va_W) (i : Nat) (j : Nat) (k : Nat) (hroom : mn < 19) (hi : i < 12) (hj : j < 12) (hk : k < 12) (A : Nat → Prop) (hD : va_D A (wX a cI cZ cJ pn px py ln lf lt lr sn sf st sr th hn qx qy mn mc mk mo mr ++ rest)) : Met l y_M_add (Cond.code y_M_add b_M_add 4 none :: ec_tbl) ({ frames := 0, cells := 0, slots := 0, locals := 0 }) (va_Pc [.ref (a 17), .int (nI i), .int (nI j), .int (nI k)] (fun U => va_P (dC, dI) vwCl (wX a cI cZ cJ pn px py ln lf lt lr sn sf st sr th hn qx qy mn mc mk mo mr ++ rest) U.heap ∧ va_K (dC, dI) vwCl (ec_tys cI cZ cJ) U)) (va_Qv (fun (u : Unit) => u = ()) (fun u t => va_P (dC, dI) vwCl (wX a cI cZ cJ pn px py ln lf lt lr sn sf st sr th hn qx qy (mn + 1) (ec_tc mc mn i j k) (va_up mk mn False) (ec_to mo mn i j k) mr ++ rest) t.heap) A) 0 0 A := by
  refine Met.ofW (cc := b_M_add) (maxL := 4) (ret := none) (by decide) rfl ?_
  intro p e s m args below meth c s₁ B hml hv0
  obtain ⟨rfl, hP, hK⟩ := hv0
  have hx := B.exec
  have hb := B.bytes
  have hr := B.returns
  have hts := atoms_spec (ws := (Cond.code y_M_add b_M_add 4 none :: ec_tbl)) B.pre
  have htb : ∀ w ∈ ec_tbl, w.before _ s = true := fun w h => hts w (List.mem_cons_of_mem _ h)
  clear hts
  have hown : s.vm.findClass "ExactMesh$CarvedMesh" = some m.cls := findClass_of_methodNamed B.named
  have hlocks := B.notSynchronized
  have hl := lv_entry ([.ref (a 17), .int (nI i), .int (nI j), .int (nI k)]) (n := 4) (Nat.le_of_ble_eq_true rfl)
  rw [lg_entry_eq]
  generalize (lg_sl ([.ref (a 17), .int (nI i), .int (nI j), .int (nI k)]) ++ List.replicate (4 - (lg_sl ([.ref (a 17), .int (nI i), .int (nI j), .int (nI k)])).length) Slot.unset).toArray = ls at hl ⊢
  replace hl : lv_has ls 4 [(0, .ref (a 17)), (1, .int (nI i)), (2, .int (nI j)), (3, .int (nI k))] := hl
  refine ec_start (fun H locs hH hlocs => ?_)
  replace hP : va_P (dC, dI) vwCl (wX a cI cZ cJ pn px py ln lf lt lr sn sf st sr th hn qx qy mn mc mk mo mr ++ rest) H := by rw [hH]; exact hP
  have hS : va_S A s.heap H locs := by rw [hH, hlocs]; exact va_S.rf
  clear hH hlocs
  refine lv_aload_n hx hb d_M_add_0 rfl (lv_at hl 0 rfl) ?_
  refine va_get (D := (dC, dI)) (ci := 3) (v := .int (nI mn)) (C := R_M) (T := T_M) (N := 5) hx hb htb in_M hown hK hP 17 rfl rfl 4 (by decide) (htb _ wd_99) (fun _ h9 => h9) rfl d_M_add_1 ?_
  refine lv_bipush (v := nI 19) hx hb d_M_add_4 (by decide) ?_
  refine ec_icmp_ge (tgt := 114) hx hb d_M_add_6 rfl (by omega) (by omega) (fun h6 => ?_) (fun h6 => ?_)
  · exact absurd h6 (by omega)
  · refine lv_aload_n hx hb d_M_add_9 rfl (lv_at hl 0 rfl) ?_
    refine va_get (D := (dC, dI)) (ci := 3) (v := .ref (a 18)) (C := R_M) (T := T_M) (N := 5) hx hb htb in_M hown hK hP 17 rfl rfl 0 (by decide) (htb _ wd_95) (fun _ h9 => h9) rfl d_M_add_10 ?_
    refine lv_iconst (v := nI 3) hx hb d_M_add_13 (by decide) ?_
    refine lv_aload_n hx hb d_M_add_14 rfl (lv_at hl 0 rfl) ?_
    refine va_get (D := (dC, dI)) (ci := 3) (v := .int (nI mn)) (C := R_M) (T := T_M) (N := 5) hx hb htb in_M hown hK hP 17 rfl rfl 4 (by decide) (htb _ wd_99) (fun _ h9 => h9) rfl d_M_add_15 ?_
    refine ec_imul hx hb d_M_add_18 ?_
    refine lv_iload_n hx hb d_M_add_19 rfl (lv_at hl 1 rfl) ?_
    refine ec_iastN (f := mc) (i := 3 * mn) (x := i) hx hb hK hP hD hS 18 0 rfl rfl rfl (by omega) (by decide) d_M_add_20 (fun H locs hP hD hS => ?_)
    replace hP : va_P (dC, dI) vwCl (wX a cI cZ cJ pn px py ln lf lt lr sn sf st sr th hn qx qy mn (va_up mc (3 * mn) i) mk mo mr ++ rest) H := hP
    replace hD : va_D A (wX a cI cZ cJ pn px py ln lf lt lr sn sf st sr th hn qx qy mn (va_up mc (3 * mn) i) mk mo mr ++ rest) := hD
    refine lv_aload_n hx hb d_M_add_21 rfl (lv_at hl 0 rfl) ?_
    refine va_get (D := (dC, dI)) (ci := 3) (v := .ref (a 18)) (C := R_M) (T := T_M) (N := 5) hx hb htb in_M hown hK hP 17 rfl rfl 0 (by decide) (htb _ wd_95) (fun _ h9 => h9) rfl d_M_add_22 ?_
    refine lv_iconst (v := nI 3) hx hb d_M_add_25 (by decide) ?_
    refine lv_aload_n hx hb d_M_add_26 rfl (lv_at hl 0 rfl) ?_
    refine va_get (D := (dC, dI)) (ci := 3) (v := .int (nI mn)) (C := R_M) (T := T_M) (N := 5) hx hb htb in_M hown hK hP 17 rfl rfl 4 (by decide) (htb _ wd_99) (fun _ h9 => h9) rfl d_M_add_27 ?_
    refine ec_imul hx hb d_M_add_30 ?_
    refine lv_iconst (v := nI 1) hx hb d_M_add_31 (by decide) ?_
    refine ec_iadd hx hb d_M_add_32 ?_
    refine lv_iload_n hx hb d_M_add_33 rfl (lv_at hl 2 rfl) ?_
    refine ec_iastN (f := va_up mc (3 * mn) i) (i := (3 * mn) + 1) (x := j) hx hb hK hP hD hS 18 0 rfl rfl rfl (by omega) (by decide) d_M_add_34 (fun H locs hP hD hS => ?_)
    replace hP : va_P (dC, dI) vwCl (wX a cI cZ cJ pn px py ln lf lt lr sn sf st sr th hn qx qy mn (va_up (va_up mc (3 * mn) i) ((3 * mn) + 1) j) mk mo mr ++ rest) H := hP
    replace hD : va_D A (wX a cI cZ cJ pn px py ln lf lt lr sn sf st sr th hn qx qy mn (va_up (va_up mc (3 * mn) i) ((3 * mn) + 1) j) mk mo mr ++ rest) := hD
    refine lv_aload_n hx hb d_M_add_35 rfl (lv_at hl 0 rfl) ?_
    refine va_get (D := (dC, dI)) (ci := 3) (v := .ref (a 18)) (C := R_M) (T := T_M) (N := 5) hx hb htb in_M hown hK hP 17 rfl rfl 0 (by decide) (htb _ wd_95) (fun _ h9 => h9) rfl d_M_add_36 ?_
    refine lv_iconst (v := nI 3) hx hb d_M_add_39 (by decide) ?_
    refine lv_aload_n hx hb d_M_add_40 rfl (lv_at hl 0 rfl) ?_
    refine va_get (D := (dC, dI)) (ci := 3) (v := .int (nI mn)) (C := R_M) (T := T_M) (N := 5) hx hb htb in_M hown hK hP 17 rfl rfl 4 (by decide) (htb _ wd_99) (fun _ h9 => h9) rfl d_M_add_41 ?_
    refine ec_imul hx hb d_M_add_44 ?_
    refine lv_iconst (v := nI 2) hx hb d_M_add_45 (by decide) ?_
    refine ec_iadd hx hb d_M_add_46 ?_
    refine lv_iload_n hx hb d_M_add_47 rfl (lv_at hl 3 rfl) ?_
    refine ec_iastN (f := va_up (va_up mc (3 * mn) i) ((3 * mn) + 1) j) (i := (3 * mn) + 2) (x := k) hx hb hK hP hD hS 18 0 rfl rfl rfl (by omega) (by decide) d_M_add_48 (fun H locs hP hD hS => ?_)
    replace hP : va_P (dC, dI) vwCl (wX a cI cZ cJ pn px py ln lf lt lr sn sf st sr th hn qx qy mn (va_up (va_up (va_up mc (3 * mn) i) ((3 * mn) + 1) j) ((3 * mn) + 2) k) mk mo mr ++ rest) H := hP
    replace hD : va_D A (wX a cI cZ cJ pn px py ln lf lt lr sn sf st sr th hn qx qy mn (va_up (va_up (va_up mc (3 * mn) i) ((3 * mn) + 1) j) ((3 * mn) + 2) k) mk mo mr ++ rest) := hD
    refine lv_aload_n hx hb d_M_add_49 rfl (lv_at hl 0 rfl) ?_
    refine va_get (D := (dC, dI)) (ci := 3) (v := .ref (a 20)) (C := R_M) (T := T_M) (N := 5) hx hb htb in_M hown hK hP 17 rfl rfl 2 (by decide) (htb _ wd_97) (fun _ h9 => h9) rfl d_M_add_50 ?_
    refine lv_iload_n hx hb d_M_add_53 rfl (lv_at hl 1 rfl) ?_
    refine lv_bipush (v := nI 12) hx hb d_M_add_54 (by decide) ?_
    refine ec_imul hx hb d_M_add_56 ?_
    refine lv_iload_n hx hb d_M_add_57 rfl (lv_at hl 2 rfl) ?_
    refine ec_iadd hx hb d_M_add_58 ?_
    refine lv_aload_n hx hb d_M_add_59 rfl (lv_at hl 0 rfl) ?_
    refine va_get (D := (dC, dI)) (ci := 3) (v := .int (nI mn)) (C := R_M) (T := T_M) (N := 5) hx hb htb in_M hown hK hP 17 rfl rfl 4 (by decide) (htb _ wd_99) (fun _ h9 => h9) rfl d_M_add_60 ?_
    refine ec_iastO (f := mo) (i := (i * 12) + j) (x := some mn) hx hb hK hP hD hS 20 0 rfl rfl rfl (by omega) (by decide) d_M_add_63 (fun H locs hP hD hS => ?_)
    replace hP : va_P (dC, dI) vwCl (wX a cI cZ cJ pn px py ln lf lt lr sn sf st sr th hn qx qy mn (va_up (va_up (va_up mc (3 * mn) i) ((3 * mn) + 1) j) ((3 * mn) + 2) k) mk (va_up mo ((i * 12) + j) (some mn)) mr ++ rest) H := hP
    replace hD : va_D A (wX a cI cZ cJ pn px py ln lf lt lr sn sf st sr th hn qx qy mn (va_up (va_up (va_up mc (3 * mn) i) ((3 * mn) + 1) j) ((3 * mn) + 2) k) mk (va_up mo ((i * 12) + j) (some mn)) mr ++ rest) := hD
    refine lv_aload_n hx hb d_M_add_64 rfl (lv_at hl 0 rfl) ?_
    refine va_get (D := (dC, dI)) (ci := 3) (v := .ref (a 20)) (C := R_M) (T := T_M) (N := 5) hx hb htb in_M hown hK hP 17 rfl rfl 2 (by decide) (htb _ wd_97) (fun _ h9 => h9) rfl d_M_add_65 ?_
    refine lv_iload_n hx hb d_M_add_68 rfl (lv_at hl 2 rfl) ?_
    refine lv_bipush (v := nI 12) hx hb d_M_add_69 (by decide) ?_
    refine ec_imul hx hb d_M_add_71 ?_
    refine lv_iload_n hx hb d_M_add_72 rfl (lv_at hl 3 rfl) ?_
    refine ec_iadd hx hb d_M_add_73 ?_
    refine lv_aload_n hx hb d_M_add_74 rfl (lv_at hl 0 rfl) ?_
    refine va_get (D := (dC, dI)) (ci := 3) (v := .int (nI mn)) (C := R_M) (T := T_M) (N := 5) hx hb htb in_M hown hK hP 17 rfl rfl 4 (by decide) (htb _ wd_99) (fun _ h9 => h9) rfl d_M_add_75 ?_
    refine ec_iastO (f := va_up mo ((i * 12) + j) (some mn)) (i := (j * 12) + k) (x := some mn) hx hb hK hP hD hS 20 0 rfl rfl rfl (by omega) (by decide) d_M_add_78 (fun H locs hP hD hS => ?_)
    replace hP : va_P (dC, dI) vwCl (wX a cI cZ cJ pn px py ln lf lt lr sn sf st sr th hn qx qy mn (va_up (va_up (va_up mc (3 * mn) i) ((3 * mn) + 1) j) ((3 * mn) + 2) k) mk (va_up (va_up mo ((i * 12) + j) (some mn)) ((j * 12) + k) (some mn)) mr ++ rest) H := hP
    replace hD : va_D A (wX a cI cZ cJ pn px py ln lf lt lr sn sf st sr th hn qx qy mn (va_up (va_up (va_up mc (3 * mn) i) ((3 * mn) + 1) j) ((3 * mn) + 2) k) mk (va_up (va_up mo ((i * 12) + j) (some mn)) ((j * 12) + k) (some mn)) mr ++ rest) := hD
    refine lv_aload_n hx hb d_M_add_79 rfl (lv_at hl 0 rfl) ?_
    refine va_get (D := (dC, dI)) (ci := 3) (v := .ref (a 20)) (C := R_M) (T := T_M) (N := 5) hx hb htb in_M hown hK hP 17 rfl rfl 2 (by decide) (htb _ wd_97) (fun _ h9 => h9) rfl d_M_add_80 ?_
    refine lv_iload_n hx hb d_M_add_83 rfl (lv_at hl 3 rfl) ?_
    refine lv_bipush (v := nI 12) hx hb d_M_add_84 (by decide) ?_
    refine ec_imul hx hb d_M_add_86 ?_
    refine lv_iload_n hx hb d_M_add_87 rfl (lv_at hl 1 rfl) ?_
    refine ec_iadd hx hb d_M_add_88 ?_
    refine lv_aload_n hx hb d_M_add_89 rfl (lv_at hl 0 rfl) ?_
    refine va_get (D := (dC, dI)) (ci := 3) (v := .int (nI mn)) (C := R_M) (T := T_M) (N := 5) hx hb htb in_M hown hK hP 17 rfl rfl 4 (by decide) (htb _ wd_99) (fun _ h9 => h9) rfl d_M_add_90 ?_
    refine ec_iastO (f := va_up (va_up mo ((i * 12) + j) (some mn)) ((j * 12) + k) (some mn)) (i := (k * 12) + i) (x := some mn) hx hb hK hP hD hS 20 0 rfl rfl rfl (by omega) (by decide) d_M_add_93 (fun H locs hP hD hS => ?_)
    replace hP : va_P (dC, dI) vwCl (wX a cI cZ cJ pn px py ln lf lt lr sn sf st sr th hn qx qy mn (va_up (va_up (va_up mc (3 * mn) i) ((3 * mn) + 1) j) ((3 * mn) + 2) k) mk (va_up (va_up (va_up mo ((i * 12) + j) (some mn)) ((j * 12) + k) (some mn)) ((k * 12) + i) (some mn)) mr ++ rest) H := hP
    replace hD : va_D A (wX a cI cZ cJ pn px py ln lf lt lr sn sf st sr th hn qx qy mn (va_up (va_up (va_up mc (3 * mn) i) ((3 * mn) + 1) j) ((3 * mn) + 2) k) mk (va_up (va_up (va_up mo ((i * 12) + j) (some mn)) ((j * 12) + k) (some mn)) ((k * 12) + i) (some mn)) mr ++ rest) := hD
    refine lv_aload_n hx hb d_M_add_94 rfl (lv_at hl 0 rfl) ?_
    refine va_get (D := (dC, dI)) (ci := 3) (v := .ref (a 19)) (C := R_M) (T := T_M) (N := 5) hx hb htb in_M hown hK hP 17 rfl rfl 1 (by decide) (htb _ wd_96) (fun _ h9 => h9) rfl d_M_add_95 ?_
    refine lv_aload_n hx hb d_M_add_98 rfl (lv_at hl 0 rfl) ?_
    refine va_get (D := (dC, dI)) (ci := 3) (v := .int (nI mn)) (C := R_M) (T := T_M) (N := 5) hx hb htb in_M hown hK hP 17 rfl rfl 4 (by decide) (htb _ wd_99) (fun _ h9 => h9) rfl d_M_add_99 ?_
    refine lv_iconst (v := nI 0) hx hb d_M_add_102 (by decide) ?_
    refine ec_zastZ (f := mk) (i := mn) (x := False) hx hb hK hP hD hS 19 1 rfl rfl (ec_bp_f (fun h => h)).symm (by omega) (by decide) d_M_add_103 (fun H locs hP hD hS => ?_)
    replace hP : va_P (dC, dI) vwCl (wX a cI cZ cJ pn px py ln lf lt lr sn sf st sr th hn qx qy mn (va_up (va_up (va_up mc (3 * mn) i) ((3 * mn) + 1) j) ((3 * mn) + 2) k) (va_up mk mn False) (va_up (va_up (va_up mo ((i * 12) + j) (some mn)) ((j * 12) + k) (some mn)) ((k * 12) + i) (some mn)) mr ++ rest) H := hP
    replace hD : va_D A (wX a cI cZ cJ pn px py ln lf lt lr sn sf st sr th hn qx qy mn (va_up (va_up (va_up mc (3 * mn) i) ((3 * mn) + 1) j) ((3 * mn) + 2) k) (va_up mk mn False) (va_up (va_up (va_up mo ((i * 12) + j) (some mn)) ((j * 12) + k) (some mn)) ((k * 12) + i) (some mn)) mr ++ rest) := hD
    refine lv_aload_n hx hb d_M_add_104 rfl (lv_at hl 0 rfl) ?_
    refine lv_dup hx hb d_M_add_105 rfl ?_
    refine va_get (D := (dC, dI)) (ci := 3) (v := .int (nI mn)) (C := R_M) (T := T_M) (N := 5) hx hb htb in_M hown hK hP 17 rfl rfl 4 (by decide) (htb _ wd_99) (fun _ h9 => h9) rfl d_M_add_106 ?_
    refine lv_iconst (v := nI 1) hx hb d_M_add_109 (by decide) ?_
    refine ec_iadd hx hb d_M_add_110 ?_
    refine va_put (D := (dC, dI)) (ci := 3) (v := .int (nI (mn + 1))) (ty := .int) (C := R_M) (T := T_M) (N := 5) hx hb htb in_M t_M ty_M nm_M hown hK hP hD hS 17 rfl rfl 4 (by decide) (htb _ wd_99) (fun _ h9 => h9) rfl (by decide +kernel) rfl rfl (Nat.le_of_ble_eq_true rfl) d_M_add_111 (fun H locs hP hD hS => ?_)
    replace hP : va_P (dC, dI) vwCl (wX a cI cZ cJ pn px py ln lf lt lr sn sf st sr th hn qx qy (mn + 1) (va_up (va_up (va_up mc (3 * mn) i) ((3 * mn) + 1) j) ((3 * mn) + 2) k) (va_up mk mn False) (va_up (va_up (va_up mo ((i * 12) + j) (some mn)) ((j * 12) + k) (some mn)) ((k * 12) + i) (some mn)) mr ++ rest) H := hP
    replace hD : va_D A (wX a cI cZ cJ pn px py ln lf lt lr sn sf st sr th hn qx qy (mn + 1) (va_up (va_up (va_up mc (3 * mn) i) ((3 * mn) + 1) j) ((3 * mn) + 2) k) (va_up mk mn False) (va_up (va_up (va_up mo ((i * 12) + j) (some mn)) ((j * 12) + k) (some mn)) ((k * 12) + i) (some mn)) mr ++ rest) := hD
    exact W.vret hx hb hr (fun tS ht hW => ⟨⟨(), rfl, rfl, by show va_P _ _ _ tS.heap; rw [ht]; exact hP⟩, hS.F ht⟩) hS.2.2 d_M_add_114
