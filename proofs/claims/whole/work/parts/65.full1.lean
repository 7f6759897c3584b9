set_option maxRecDepth 100000 in
set_option maxHeartbeats 4000000 in
theorem c_F_thirdOf (l : Launch) (dC : Nat → ClassId) (dI : Nat → Nat → Nat) (a : Nat → Nat) (cI cZ cJ : ClassId) (pn : Nat) (px : Nat → Int32) (py : Nat → Int32) (ln : Nat) (lf : Nat → Nat) (lt : Nat → Nat) (lr : Nat → Nat) (sn : Nat) (sf : Nat → Nat) (st : Nat → Nat) (sr : Nat → Nat) (th : Nat → Option Nat) (hn : Nat) (qx : Nat → Int32) (qy : Nat → Int32) (mn : Nat) (mc : Nat → Nat) (mk : Nat → Prop) (mo : Nat → Option Nat) (mr : Nat → Nat) (rest : va_W) (i : Nat) (j : Nat) (hi : i < 12) (hj : j < 12) : Met l y_F_thirdOf (Cond.code y_F_thirdOf b_F_thirdOf 3 (some .int) :: ec_tbl) ({ frames := 0, cells := 0, slots := 0, locals := 0 }) (va_Pc [.ref (a 1), .int (nI i), .int (nI j)] (fun U => va_P (dC, dI) vwCl (wX a cI cZ cJ pn px py ln lf lt lr sn sf st sr th hn qx qy mn mc mk mo mr ++ rest) U.heap ∧ va_K (dC, dI) vwCl (ec_tys cI cZ cJ) U)) (vp_Si (fun r : Int32 => r = ec_oi (th (i * 12 + j)))) 0 0 (fun _ => False) := by
  refine Met.ofW (cc := b_F_thirdOf) (maxL := 3) (ret := (some .int)) (by decide) rfl ?_
  intro p e s m args below meth c s₁ B hml hv0
  obtain ⟨rfl, hP, hK⟩ := hv0
  have hx := B.exec
  have hb := B.bytes
  have hr := B.returns
  have hts := atoms_spec (ws := (Cond.code y_F_thirdOf b_F_thirdOf 3 (some .int) :: ec_tbl)) B.pre
  have htb : ∀ w ∈ ec_tbl, w.before _ s = true := fun w h => hts w (List.mem_cons_of_mem _ h)
  clear hts
  have hown : s.vm.findClass "ExactMesh$FullMesh" = some m.cls := findClass_of_methodNamed B.named
  have hlocks := B.notSynchronized
  have hl := lv_entry ([.ref (a 1), .int (nI i), .int (nI j)]) (n := 3) (Nat.le_of_ble_eq_true rfl)
  rw [lg_entry_eq]
  generalize (lg_sl ([.ref (a 1), .int (nI i), .int (nI j)]) ++ List.replicate (3 - (lg_sl ([.ref (a 1), .int (nI i), .int (nI j)])).length) Slot.unset).toArray = ls at hl ⊢
  replace hl : lv_has ls 3 [(0, .ref (a 1)), (1, .int (nI i)), (2, .int (nI j))] := hl
  refine lv_aload_n hx hb d_F_thirdOf_0 rfl (lv_at hl 0 rfl) ?_
  refine va_get (D := (dC, dI)) (ci := 2) (v := .ref (a 13)) (C := R_F) (T := T_F) (N := 4) hx hb htb in_F hown hK hP 1 rfl rfl 3 (by decide) (htb _ wd_77) (fun _ h9 => h9) rfl d_F_thirdOf_1 ?_
  refine lv_iload_n hx hb d_F_thirdOf_4 rfl (lv_at hl 1 rfl) ?_
  refine lv_bipush (v := nI 12) hx hb d_F_thirdOf_5 (by decide) ?_
  refine ec_imul hx hb d_F_thirdOf_7 ?_
  refine lv_iload_n hx hb d_F_thirdOf_8 rfl (lv_at hl 2 rfl) ?_
  refine ec_iadd hx hb d_F_thirdOf_9 ?_
  refine ec_ialdO (f := th) (i := (i * 12) + j) hx hb hK hP 13 0 rfl rfl (by omega) (by decide) d_F_thirdOf_10 ?_
  exact W.iret hx hb hr (fun tS ht hW => ⟨_, rfl, rfl, ht⟩) (fun _ h => nomatch h) d_F_thirdOf_11

set_option maxRecDepth 100000 in
set_option maxHeartbeats 4000000 in
theorem c_F_setThird (l : Launch) (dC : Nat → ClassId) (dI : Nat → Nat → Nat) (a : Nat → Nat) (cI cZ cJ : ClassId) (pn : Nat) (px : Nat → Int32) (py : Nat → Int32) (ln : Nat) (lf : Nat → Nat) (lt : Nat → Nat) (lr : Nat → Nat) (sn : Nat) (sf : Nat → Nat) (st : Nat → Nat) (sr : Nat → Nat) (th : Nat → Option Nat) (hn : Nat) (qx : Nat → Int32) (qy : Nat → Int32) (mn : Nat) (mc : Nat → Nat) (mk : Nat → Prop) (mo : Nat → Option Nat) (mr : Nat → Nat) (rest : va_W) (i : Nat) (j : Nat) (o : Option Nat) (hi : i < 12) (hj : j < 12) (A : Nat → Prop) (hD : va_D A (wX a cI cZ cJ pn px py ln lf lt lr sn sf st sr th hn qx qy mn mc mk mo mr ++ rest)) : Met l y_F_setThird (Cond.code y_F_setThird b_F_setThird 4 none :: ec_tbl) ({ frames := 0, cells := 0, slots := 0, locals := 0 }) (va_Pc [.ref (a 1), .int (nI i), .int (nI j), .int (ec_oi o)] (fun U => va_P (dC, dI) vwCl (wX a cI cZ cJ pn px py ln lf lt lr sn sf st sr th hn qx qy mn mc mk mo mr ++ rest) U.heap ∧ va_K (dC, dI) vwCl (ec_tys cI cZ cJ) U)) (va_Qv (fun (u : Unit) => u = ()) (fun u t => va_P (dC, dI) vwCl (wX a cI cZ cJ pn px py ln lf lt lr sn sf st sr (va_up th (i * 12 + j) o) hn qx qy mn mc mk mo mr ++ rest) t.heap) A) 0 0 A := by
  refine Met.ofW (cc := b_F_setThird) (maxL := 4) (ret := none) (by decide) rfl ?_
  intro p e s m args below meth c s₁ B hml hv0
  obtain ⟨rfl, hP, hK⟩ := hv0
  have hx := B.exec
  have hb := B.bytes
  have hr := B.returns
  have hts := atoms_spec (ws := (Cond.code y_F_setThird b_F_setThird 4 none :: ec_tbl)) B.pre
  have htb : ∀ w ∈ ec_tbl, w.before _ s = true := fun w h => hts w (List.mem_cons_of_mem _ h)
  clear hts
  have hown : s.vm.findClass "ExactMesh$FullMesh" = some m.cls := findClass_of_methodNamed B.named
  have hlocks := B.notSynchronized
  have hl := lv_entry ([.ref (a 1), .int (nI i), .int (nI j), .int (ec_oi o)]) (n := 4) (Nat.le_of_ble_eq_true rfl)
  rw [lg_entry_eq]
  generalize (lg_sl ([.ref (a 1), .int (nI i), .int (nI j), .int (ec_oi o)]) ++ List.replicate (4 - (lg_sl ([.ref (a 1), .int (nI i), .int (nI j), .int (ec_oi o)])).length) Slot.unset).toArray = ls at hl ⊢
  replace hl : lv_has ls 4 [(0, .ref (a 1)), (1, .int (nI i)), (2, .int (nI j)), (3, .int (ec_oi o))] := hl
  refine ec_start (fun H locs hH hlocs => ?_)
  replace hP : va_P (dC, dI) vwCl (wX a cI cZ cJ pn px py ln lf lt lr sn sf st sr th hn qx qy mn mc mk mo mr ++ rest) H := by rw [hH]; exact hP
  have hS : va_S A s.heap H locs := by rw [hH, hlocs]; exact va_S.rf
  clear hH hlocs
  refine lv_aload_n hx hb d_F_setThird_0 rfl (lv_at hl 0 rfl) ?_
  refine va_get (D := (dC, dI)) (ci := 2) (v := .ref (a 13)) (C := R_F) (T := T_F) (N := 4) hx hb htb in_F hown hK hP 1 rfl rfl 3 (by decide) (htb _ wd_77) (fun _ h9 => h9) rfl d_F_setThird_1 ?_
  refine lv_iload_n hx hb d_F_setThird_4 rfl (lv_at hl 1 rfl) ?_
  refine lv_bipush (v := nI 12) hx hb d_F_setThird_5 (by decide) ?_
  refine ec_imul hx hb d_F_setThird_7 ?_
  refine lv_iload_n hx hb d_F_setThird_8 rfl (lv_at hl 2 rfl) ?_
  refine ec_iadd hx hb d_F_setThird_9 ?_
  refine lv_iload_n hx hb d_F_setThird_10 rfl (lv_at hl 3 rfl) ?_
  refine ec_iastO (f := th) (i := (i * 12) + j) (x := o) hx hb hK hP hD hS 13 0 rfl rfl rfl (by omega) (by decide) d_F_setThird_11 (fun H locs hP hD hS => ?_)
  replace hP : va_P (dC, dI) vwCl (wX a cI cZ cJ pn px py ln lf lt lr sn sf st sr (va_up th ((i * 12) + j) o) hn qx qy mn mc mk mo mr ++ rest) H := hP
  replace hD : va_D A (wX a cI cZ cJ pn px py ln lf lt lr sn sf st sr (va_up th ((i * 12) + j) o) hn qx qy mn mc mk mo mr ++ rest) := hD
  exact W.vret hx hb hr (fun tS ht hW => ⟨⟨(), rfl, rfl, by show va_P _ _ _ tS.heap; rw [ht]; exact hP⟩, hS.F ht⟩) hS.2.2 d_F_setThird_12

set_option maxRecDepth 100000 in
set_option maxHeartbeats 4000000 in
theorem c_F_setTriangle (l : Launch) (dC : Nat → ClassId) (dI : Nat → Nat → Nat) (a : Nat → Nat) (cI cZ cJ : ClassId) (pn : Nat) (px : Nat → Int32) (py : Nat → Int32) (ln : Nat) (lf : Nat → Nat) (lt : Nat → Nat) (lr : Nat → Nat) (sn : Nat) (sf : Nat → Nat) (st : Nat → Nat) (sr : Nat → Nat) (th : Nat → Option Nat) (hn : Nat) (qx : Nat → Int32) (qy : Nat → Int32) (mn : Nat) (mc : Nat → Nat) (mk : Nat → Prop) (mo : Nat → Option Nat) (mr : Nat → Nat) (rest : va_W) (i : Nat) (j : Nat) (k : Nat) (hi : i < 12) (hj : j < 12) (hk : k < 12) (A : Nat → Prop) (hD : va_D A (wX a cI cZ cJ pn px py ln lf lt lr sn sf st sr th hn qx qy mn mc mk mo mr ++ rest)) : Met l y_F_setTriangle (Cond.code y_F_setTriangle b_F_setTriangle 4 none :: ec_tbl) ({ frames := 1, cells := 0, slots := 0, locals := 23 }) (va_Pc [.ref (a 1), .int (nI i), .int (nI j), .int (nI k)] (fun U => va_P (dC, dI) vwCl (wX a cI cZ cJ pn px py ln lf lt lr sn sf st sr th hn qx qy mn mc mk mo mr ++ rest) U.heap ∧ va_K (dC, dI) vwCl (ec_tys cI cZ cJ) U)) (va_Qv (fun (u : Unit) => u = ()) (fun u t => va_P (dC, dI) vwCl (wX a cI cZ cJ pn px py ln lf lt lr sn sf st sr (va_up (va_up (va_up th (i * 12 + j) (some k)) (j * 12 + k) (some i)) (k * 12 + i) (some j)) hn qx qy mn mc mk mo mr ++ rest) t.heap) A) 0 0 A := by
  refine Met.ofW (cc := b_F_setTriangle) (maxL := 4) (ret := none) (by decide) rfl ?_
  intro p e s m args below meth c s₁ B hml hv0
  obtain ⟨rfl, hP, hK⟩ := hv0
  have hx := B.exec
  have hb := B.bytes
  have hr := B.returns
  have hts := atoms_spec (ws := (Cond.code y_F_setTriangle b_F_setTriangle 4 none :: ec_tbl)) B.pre
  have htb : ∀ w ∈ ec_tbl, w.before _ s = true := fun w h => hts w (List.mem_cons_of_mem _ h)
  clear hts
  have hown : s.vm.findClass "ExactMesh$FullMesh" = some m.cls := findClass_of_methodNamed B.named
  have hlocks := B.notSynchronized
  have hl := lv_entry ([.ref (a 1), .int (nI i), .int (nI j), .int (nI k)]) (n := 4) (Nat.le_of_ble_eq_true rfl)
  rw [lg_entry_eq]
  generalize (lg_sl ([.ref (a 1), .int (nI i), .int (nI j), .int (nI k)]) ++ List.replicate (4 - (lg_sl ([.ref (a 1), .int (nI i), .int (nI j), .int (nI k)])).length) Slot.unset).toArray = ls at hl ⊢
  replace hl : lv_has ls 4 [(0, .ref (a 1)), (1, .int (nI i)), (2, .int (nI j)), (3, .int (nI k))] := hl
  refine ec_start (fun H locs hH hlocs => ?_)
  replace hP : va_P (dC, dI) vwCl (wX a cI cZ cJ pn px py ln lf lt lr sn sf st sr th hn qx qy mn mc mk mo mr ++ rest) H := by rw [hH]; exact hP
  have hS : va_S A s.heap H locs := by rw [hH, hlocs]; exact va_S.rf
  clear hH hlocs
  refine lv_aload_n hx hb d_F_setTriangle_0 rfl (lv_at hl 0 rfl) ?_
  refine lv_iload_n hx hb d_F_setTriangle_1 rfl (lv_at hl 1 rfl) ?_
  refine lv_iload_n hx hb d_F_setTriangle_2 rfl (lv_at hl 2 rfl) ?_
  refine lv_iload_n hx hb d_F_setTriangle_3 rfl (lv_at hl 3 rfl) ?_
  refine ec_vQv (C := "ExactMesh$FullMesh") (ci := 2) (q := (R_F, T_F, 4)) (q0 := 1) (As := [.int (nI i), .int (nI j), .int (nI k)]) (rest := []) ⟨hx, hb, hml, hown, htb⟩ (c_F_setThird l dC dI a cI cZ cJ pn px py ln lf lt lr sn sf st sr th hn qx qy mn mc mk mo mr rest i j (some k) (by omega) (by omega) A hD) kv_F_setThird hK hP rfl rfl rfl hS wd_295 ⟨Nat.le_of_ble_eq_true rfl, Nat.le_of_ble_eq_true rfl⟩ ⟨rfl, rfl⟩ rfl hl.1 rfl (Nat.le_of_ble_eq_true rfl) d_F_setTriangle_4 ⟨Nat.zero_le _, Nat.zero_le _⟩ (fun ur4 H locs hr4 hP hS => ?_)
  replace hr4 : ur4 = () := hr4
  replace hP : va_P (dC, dI) vwCl (wX a cI cZ cJ pn px py ln lf lt lr sn sf st sr (va_up th (i * 12 + j) (some k)) hn qx qy mn mc mk mo mr ++ rest) H := hP
  replace hD : va_D A (wX a cI cZ cJ pn px py ln lf lt lr sn sf st sr (va_up th (i * 12 + j) (some k)) hn qx qy mn mc mk mo mr ++ rest) := ec_Dk hD rfl
  refine lv_aload_n hx hb d_F_setTriangle_7 rfl (lv_at hl 0 rfl) ?_
  refine lv_iload_n hx hb d_F_setTriangle_8 rfl (lv_at hl 2 rfl) ?_
  refine lv_iload_n hx hb d_F_setTriangle_9 rfl (lv_at hl 3 rfl) ?_
  refine lv_iload_n hx hb d_F_setTriangle_10 rfl (lv_at hl 1 rfl) ?_
  refine ec_vQv (C := "ExactMesh$FullMesh") (ci := 2) (q := (R_F, T_F, 4)) (q0 := 1) (As := [.int (nI j), .int (nI k), .int (nI i)]) (rest := []) ⟨hx, hb, hml, hown, htb⟩ (c_F_setThird l dC dI a cI cZ cJ pn px py ln lf lt lr sn sf st sr (va_up th (i * 12 + j) (some k)) hn qx qy mn mc mk mo mr rest j k (some i) (by omega) (by omega) A hD) kv_F_setThird hK hP rfl rfl rfl hS wd_295 ⟨Nat.le_of_ble_eq_true rfl, Nat.le_of_ble_eq_true rfl⟩ ⟨rfl, rfl⟩ rfl hl.1 rfl (Nat.le_of_ble_eq_true rfl) d_F_setTriangle_11 ⟨Nat.zero_le _, Nat.zero_le _⟩ (fun ur11 H locs hr11 hP hS => ?_)
  replace hr11 : ur11 = () := hr11
  replace hP : va_P (dC, dI) vwCl (wX a cI cZ cJ pn px py ln lf lt lr sn sf st sr (va_up (va_up th (i * 12 + j) (some k)) (j * 12 + k) (some i)) hn qx qy mn mc mk mo mr ++ rest) H := hP
  replace hD : va_D A (wX a cI cZ cJ pn px py ln lf lt lr sn sf st sr (va_up (va_up th (i * 12 + j) (some k)) (j * 12 + k) (some i)) hn qx qy mn mc mk mo mr ++ rest) := ec_Dk hD rfl
  refine lv_aload_n hx hb d_F_setTriangle_14 rfl (lv_at hl 0 rfl) ?_
  refine lv_iload_n hx hb d_F_setTriangle_15 rfl (lv_at hl 3 rfl) ?_
  refine lv_iload_n hx hb d_F_setTriangle_16 rfl (lv_at hl 1 rfl) ?_
  refine lv_iload_n hx hb d_F_setTriangle_17 rfl (lv_at hl 2 rfl) ?_
  refine ec_vQv (C := "ExactMesh$FullMesh") (ci := 2) (q := (R_F, T_F, 4)) (q0 := 1) (As := [.int (nI k), .int (nI i), .int (nI j)]) (rest := []) ⟨hx, hb, hml, hown, htb⟩ (c_F_setThird l dC dI a cI cZ cJ pn px py ln lf lt lr sn sf st sr (va_up (va_up th (i * 12 + j) (some k)) (j * 12 + k) (some i)) hn qx qy mn mc mk mo mr rest k i (some j) (by omega) (by omega) A hD) kv_F_setThird hK hP rfl rfl rfl hS wd_295 ⟨Nat.le_of_ble_eq_true rfl, Nat.le_of_ble_eq_true rfl⟩ ⟨rfl, rfl⟩ rfl hl.1 rfl (Nat.le_of_ble_eq_true rfl) d_F_setTriangle_18 ⟨Nat.zero_le _, Nat.zero_le _⟩ (fun ur18 H locs hr18 hP hS => ?_)
  replace hr18 : ur18 = () := hr18
  replace hP : va_P (dC, dI) vwCl (wX a cI cZ cJ pn px py ln lf lt lr sn sf st sr (va_up (va_up (va_up th (i * 12 + j) (some k)) (j * 12 + k) (some i)) (k * 12 + i) (some j)) hn qx qy mn mc mk mo mr ++ rest) H := hP
  replace hD : va_D A (wX a cI cZ cJ pn px py ln lf lt lr sn sf st sr (va_up (va_up (va_up th (i * 12 + j) (some k)) (j * 12 + k) (some i)) (k * 12 + i) (some j)) hn qx qy mn mc mk mo mr ++ rest) := ec_Dk hD rfl
  exact W.vret hx hb hr (fun tS ht hW => ⟨⟨(), rfl, rfl, by show va_P _ _ _ tS.heap; rw [ht]; exact hP⟩, hS.F ht⟩) hS.2.2 d_F_setTriangle_21

set_option maxRecDepth 100000 in
set_option maxHeartbeats 4000000 in
theorem c_F_hasRoom (l : Launch) (dC : Nat → ClassId) (dI : Nat → Nat → Nat) (a : Nat → Nat) (cI cZ cJ : ClassId) (pn : Nat) (px : Nat → Int32) (py : Nat → Int32) (ln : Nat) (lf : Nat → Nat) (lt : Nat → Nat) (lr : Nat → Nat) (sn : Nat) (sf : Nat → Nat) (st : Nat → Nat) (sr : Nat → Nat) (th : Nat → Option Nat) (hn : Nat) (qx : Nat → Int32) (qy : Nat → Int32) (mn : Nat) (mc : Nat → Nat) (mk : Nat → Prop) (mo : Nat → Option Nat) (mr : Nat → Nat) (rest : va_W) (i : Nat) (j : Nat) (g12 : pn ≤ 12) (gN : ∀ i, i < pn → ec_near (px i) ∧ ec_near (py i)) (hi : i < pn) (hj : j < pn) (gsn : sn ≤ 30) (grsn : ∀ a, a < 12 → sr a < 4096) (glsn : ∀ i, i < sn → sf i < pn ∧ st i < pn) : Met l y_F_hasRoom (Cond.code y_F_hasRoom b_F_hasRoom 3 (some .boolean) :: ec_tbl) ({ frames := 4, cells := 0, slots := 0, locals := 99 }) (va_Pc [.ref (a 1), .int (nI i), .int (nI j)] (fun U => va_P (dC, dI) vwCl (wX a cI cZ cJ pn px py ln lf lt lr sn sf st sr th hn qx qy mn mc mk mo mr ++ rest) U.heap ∧ va_K (dC, dI) vwCl (ec_tys cI cZ cJ) U)) (vp_Si (fun r : Int32 => ec_isB r (ec_room pn px py sn sf st sr i j))) 0 0 (fun _ => False) := by
  refine Met.ofW (cc := b_F_hasRoom) (maxL := 3) (ret := (some .boolean)) (by decide) rfl ?_
  intro p e s m args below meth c s₁ B hml hv0
  obtain ⟨rfl, hP, hK⟩ := hv0
  have hx := B.exec
  have hb := B.bytes
  have hr := B.returns
  have hts := atoms_spec (ws := (Cond.code y_F_hasRoom b_F_hasRoom 3 (some .boolean) :: ec_tbl)) B.pre
  have htb : ∀ w ∈ ec_tbl, w.before _ s = true := fun w h => hts w (List.mem_cons_of_mem _ h)
  clear hts
  have hown : s.vm.findClass "ExactMesh$FullMesh" = some m.cls := findClass_of_methodNamed B.named
  have hlocks := B.notSynchronized
  have hl := lv_entry ([.ref (a 1), .int (nI i), .int (nI j)]) (n := 3) (Nat.le_of_ble_eq_true rfl)
  rw [lg_entry_eq]
  generalize (lg_sl ([.ref (a 1), .int (nI i), .int (nI j)]) ++ List.replicate (3 - (lg_sl ([.ref (a 1), .int (nI i), .int (nI j)])).length) Slot.unset).toArray = ls at hl ⊢
  replace hl : lv_has ls 3 [(0, .ref (a 1)), (1, .int (nI i)), (2, .int (nI j))] := hl
  refine lv_aload_n hx hb d_F_hasRoom_0 rfl (lv_at hl 0 rfl) ?_
  refine va_get (D := (dC, dI)) (ci := 2) (v := .ref (a 9)) (C := R_F) (T := T_F) (N := 4) hx hb htb in_F hown hK hP 1 rfl rfl 2 (by decide) (htb _ wd_76) (fun _ h9 => h9) rfl d_F_hasRoom_1 ?_
  refine lv_iload_n hx hb d_F_hasRoom_4 rfl (lv_at hl 1 rfl) ?_
  refine lv_iload_n hx hb d_F_hasRoom_5 rfl (lv_at hl 2 rfl) ?_
  refine ec_vSi (C := "ExactMesh$Links") (ci := 1) (q := (R_L, T_L, 4)) (q0 := 9) (As := [.int (nI i), .int (nI j)]) (rest := []) ⟨hx, hb, hml, hown, htb⟩ (c_S_join l dC dI a cI cZ cJ pn px py ln lf lt lr sn sf st sr th hn qx qy mn mc mk mo mr rest i j (by omega) (by omega) grsn) kv_L_join hK hP rfl rfl rfl wd_269 ⟨Nat.le_of_ble_eq_true rfl, Nat.le_of_ble_eq_true rfl⟩ ⟨rfl, rfl⟩ rfl hl.1 rfl (Nat.le_of_ble_eq_true rfl) d_F_hasRoom_6 ⟨Nat.zero_le _, Nat.zero_le _⟩ (fun r6 hr6 => ?_)
  replace hr6 : ec_isB r6 ((sr i).testBit j = true) := hr6
  refine ec_if_neB (tgt := 44) hx hb hr6 d_F_hasRoom_9 rfl (fun h9 => ?_) (fun h9 => ?_)
  · refine lv_iconst (v := nI 0) hx hb d_F_hasRoom_44 (by decide) ?_
    exact W.zret hx hb hr rfl (fun tS ht hW => ⟨_, rfl, (ec_isB.f0 (fun q => q.1 h9)), ht⟩) (fun _ h => nomatch h) d_F_hasRoom_45
  · refine lv_aload_n hx hb d_F_hasRoom_12 rfl (lv_at hl 0 rfl) ?_
    refine va_get (D := (dC, dI)) (ci := 2) (v := .ref (a 2)) (C := R_F) (T := T_F) (N := 4) hx hb htb in_F hown hK hP 1 rfl rfl 0 (by decide) (htb _ wd_70) (fun _ h9 => h9) rfl d_F_hasRoom_13 ?_
    refine lv_iload_n hx hb d_F_hasRoom_16 rfl (lv_at hl 1 rfl) ?_
    refine lv_iload_n hx hb d_F_hasRoom_17 rfl (lv_at hl 2 rfl) ?_
    refine ec_vSi (C := "ExactMesh$Points") (ci := 0) (q := (R_P, T_P, 3)) (q0 := 2) (As := [.int (nI i), .int (nI j)]) (rest := []) ⟨hx, hb, hml, hown, htb⟩ (c_P_anyBetween l dC dI a cI cZ cJ pn px py ln lf lt lr sn sf st sr th hn qx qy mn mc mk mo mr rest i j g12 gN (by omega) (by omega)) kv_P_anyBetween hK hP rfl rfl rfl wd_270 ⟨Nat.le_of_ble_eq_true rfl, Nat.le_of_ble_eq_true rfl⟩ ⟨rfl, rfl⟩ rfl hl.1 rfl (Nat.le_of_ble_eq_true rfl) d_F_hasRoom_18 ⟨Nat.zero_le _, Nat.zero_le _⟩ (fun r18 hr18 => ?_)
    replace hr18 : ec_isB r18 (∃ v, v < pn ∧ v ≠ i ∧ v ≠ j ∧ ge_Btw (ec_P px py i) (ec_P px py j) (ec_P px py v)) := hr18
    refine ec_if_neB (tgt := 44) hx hb hr18 d_F_hasRoom_21 rfl (fun h21 => ?_) (fun h21 => ?_)
    · refine lv_iconst (v := nI 0) hx hb d_F_hasRoom_44 (by decide) ?_
      exact W.zret hx hb hr rfl (fun tS ht hW => ⟨_, rfl, (ec_isB.f0 (fun q => q.2.1 h21)), ht⟩) (fun _ h => nomatch h) d_F_hasRoom_45
    · refine lv_aload_n hx hb d_F_hasRoom_24 rfl (lv_at hl 0 rfl) ?_
      refine va_get (D := (dC, dI)) (ci := 2) (v := .ref (a 9)) (C := R_F) (T := T_F) (N := 4) hx hb htb in_F hown hK hP 1 rfl rfl 2 (by decide) (htb _ wd_76) (fun _ h9 => h9) rfl d_F_hasRoom_25 ?_
      refine lv_aload_n hx hb d_F_hasRoom_28 rfl (lv_at hl 0 rfl) ?_
      refine va_get (D := (dC, dI)) (ci := 2) (v := .ref (a 2)) (C := R_F) (T := T_F) (N := 4) hx hb htb in_F hown hK hP 1 rfl rfl 0 (by decide) (htb _ wd_70) (fun _ h9 => h9) rfl d_F_hasRoom_29 ?_
      refine lv_iload_n hx hb d_F_hasRoom_32 rfl (lv_at hl 1 rfl) ?_
      refine lv_iload_n hx hb d_F_hasRoom_33 rfl (lv_at hl 2 rfl) ?_
      refine ec_vSi (C := "ExactMesh$Links") (ci := 1) (q := (R_L, T_L, 4)) (q0 := 9) (As := [.ref (a 2), .int (nI i), .int (nI j)]) (rest := []) ⟨hx, hb, hml, hown, htb⟩ (c_S_anyCrossing l dC dI a cI cZ cJ pn px py ln lf lt lr sn sf st sr th hn qx qy mn mc mk mo mr rest i j g12 gN (by omega) (by omega) gsn glsn) kv_L_anyCrossing hK hP rfl rfl rfl wd_271 ⟨Nat.le_of_ble_eq_true rfl, Nat.le_of_ble_eq_true rfl⟩ ⟨rfl, rfl⟩ rfl hl.1 rfl (Nat.le_of_ble_eq_true rfl) d_F_hasRoom_34 ⟨Nat.zero_le _, Nat.zero_le _⟩ (fun r34 hr34 => ?_)
      replace hr34 : ec_isB r34 (∃ t, t < sn ∧ ge_Cr (ec_P px py i) (ec_P px py j) (ec_P px py (sf t)) (ec_P px py (st t))) := hr34
      refine ec_if_neB (tgt := 44) hx hb hr34 d_F_hasRoom_37 rfl (fun h37 => ?_) (fun h37 => ?_)
      · refine lv_iconst (v := nI 0) hx hb d_F_hasRoom_44 (by decide) ?_
        exact W.zret hx hb hr rfl (fun tS ht hW => ⟨_, rfl, (ec_isB.f0 (fun q => q.2.2 h37)), ht⟩) (fun _ h => nomatch h) d_F_hasRoom_45
      · refine lv_iconst (v := nI 1) hx hb d_F_hasRoom_40 (by decide) ?_
        refine lv_goto (tgt := 45) hx hb d_F_hasRoom_41 rfl ?_
        exact W.zret hx hb hr rfl (fun tS ht hW => ⟨_, rfl, (ec_isB.t1 ⟨h9, h21, h37⟩), ht⟩) (fun _ h => nomatch h) d_F_hasRoom_45

set_option maxRecDepth 100000 in
set_option maxHeartbeats 4000000 in
theorem c_F_drawSides (l : Launch) (dC : Nat → ClassId) (dI : Nat → Nat → Nat) (a : Nat → Nat) (cI cZ cJ : ClassId) (pn : Nat) (px : Nat → Int32) (py : Nat → Int32) (ln : Nat) (lf : Nat → Nat) (lt : Nat → Nat) (lr : Nat → Nat) (sn : Nat) (sf : Nat → Nat) (st : Nat → Nat) (sr : Nat → Nat) (th : Nat → Option Nat) (hn : Nat) (qx : Nat → Int32) (qy : Nat → Int32) (mn : Nat) (mc : Nat → Nat) (mk : Nat → Prop) (mo : Nat → Option Nat) (mr : Nat → Nat) (rest : va_W) (gS : ec_SI pn px py ln lf lt lr) (A : Nat → Prop) (hD : va_D A (wX a cI cZ cJ pn px py ln lf lt lr sn sf st sr th hn qx qy mn mc mk mo mr ++ rest)) : Met l y_F_drawSides (Cond.code y_F_drawSides b_F_drawSides 3 none :: ec_tbl) ({ frames := 5, cells := 0, slots := 0, locals := 121 }) (va_Pc [.ref (a 1)] (fun U => va_P (dC, dI) vwCl (wX a cI cZ cJ pn px py ln lf lt lr sn sf st sr th hn qx qy mn mc mk mo mr ++ rest) U.heap ∧ va_K (dC, dI) vwCl (ec_tys cI cZ cJ) U)) (va_Qv (fun (u : Nat × (Nat → Nat) × (Nat → Nat) × (Nat → Nat)) => ec_PL pn px py (ec_E ln lf lt) u.1 u.2.1 u.2.2.1 u.2.2.2) (fun u t => va_P (dC, dI) vwCl (wX a cI cZ cJ pn px py ln lf lt lr u.1 u.2.1 u.2.2.1 u.2.2.2 th hn qx qy mn mc mk mo mr ++ rest) t.heap) A) 0 0 A := by
  refine Met.ofW (cc := b_F_drawSides) (maxL := 3) (ret := none) (by decide) rfl ?_
  intro p e s m args below meth c s₁ B hml hv0
  obtain ⟨rfl, hP, hK⟩ := hv0
  have hx := B.exec
  have hb := B.bytes
  have hr := B.returns
  have hts := atoms_spec (ws := (Cond.code y_F_drawSides b_F_drawSides 3 none :: ec_tbl)) B.pre
  have htb : ∀ w ∈ ec_tbl, w.before _ s = true := fun w h => hts w (List.mem_cons_of_mem _ h)
  clear hts
  have hown : s.vm.findClass "ExactMesh$FullMesh" = some m.cls := findClass_of_methodNamed B.named
  have hlocks := B.notSynchronized
  have hl := lv_entry ([.ref (a 1)]) (n := 3) (Nat.le_of_ble_eq_true rfl)
  rw [lg_entry_eq]
  generalize (lg_sl ([.ref (a 1)]) ++ List.replicate (3 - (lg_sl ([.ref (a 1)])).length) Slot.unset).toArray = ls at hl ⊢
  replace hl : lv_has ls 3 [(0, .ref (a 1))] := hl
  refine ec_start (fun H locs hH hlocs => ?_)
  replace hP : va_P (dC, dI) vwCl (wX a cI cZ cJ pn px py ln lf lt lr sn sf st sr th hn qx qy mn mc mk mo mr ++ rest) H := by rw [hH]; exact hP
  have hS : va_S A s.heap H locs := by rw [hH, hlocs]; exact va_S.rf
  clear hH hlocs
  have g12 := gS.1
  have gN := gS.2.1
  have gln := gS.2.2.2.1
  refine lv_aload_n hx hb d_F_drawSides_0 rfl (lv_at hl 0 rfl) ?_
  refine va_get (D := (dC, dI)) (ci := 2) (v := .ref (a 9)) (C := R_F) (T := T_F) (N := 4) hx hb htb in_F hown hK hP 1 rfl rfl 2 (by decide) (htb _ wd_76) (fun _ h9 => h9) rfl d_F_drawSides_1 ?_
  refine ec_vQv (C := "ExactMesh$Links") (ci := 1) (q := (R_L, T_L, 4)) (q0 := 9) (As := []) (rest := []) ⟨hx, hb, hml, hown, htb⟩ (c_S_clear l dC dI a cI cZ cJ pn px py ln lf lt lr sn sf st sr th hn qx qy mn mc mk mo mr rest A hD) kv_L_clear hK hP rfl rfl rfl hS wd_253 ⟨Nat.le_of_ble_eq_true rfl, Nat.le_of_ble_eq_true rfl⟩ ⟨rfl, rfl⟩ rfl hl.1 rfl (Nat.le_of_ble_eq_true rfl) d_F_drawSides_4 ⟨Nat.zero_le _, Nat.zero_le _⟩ (fun ur4 H locs hr4 hP hS => ?_)
  replace hr4 : ∀ j, j < 12 → ur4 j = 0 := hr4
  replace hP : va_P (dC, dI) vwCl (wX a cI cZ cJ pn px py ln lf lt lr 0 sf st ur4 th hn qx qy mn mc mk mo mr ++ rest) H := hP
  replace hD : va_D A (wX a cI cZ cJ pn px py ln lf lt lr 0 sf st ur4 th hn qx qy mn mc mk mo mr ++ rest) := ec_Dk hD rfl
  refine lv_aload_n hx hb d_F_drawSides_7 rfl (lv_at hl 0 rfl) ?_
  refine va_get (D := (dC, dI)) (ci := 2) (v := .ref (a 9)) (C := R_F) (T := T_F) (N := 4) hx hb htb in_F hown hK hP 1 rfl rfl 2 (by decide) (htb _ wd_76) (fun _ h9 => h9) rfl d_F_drawSides_8 ?_
  refine lv_aload_n hx hb d_F_drawSides_11 rfl (lv_at hl 0 rfl) ?_
  refine va_get (D := (dC, dI)) (ci := 2) (v := .ref (a 5)) (C := R_F) (T := T_F) (N := 4) hx hb htb in_F hown hK hP 1 rfl rfl 1 (by decide) (htb _ wd_73) (fun _ h9 => h9) rfl d_F_drawSides_12 ?_
  refine ec_vQv (C := "ExactMesh$Links") (ci := 1) (q := (R_L, T_L, 4)) (q0 := 9) (As := [.ref (a 5)]) (rest := []) ⟨hx, hb, hml, hown, htb⟩ (c_S_addAll l dC dI a cI cZ cJ pn px py ln lf lt lr 0 sf st ur4 th hn qx qy mn mc mk mo mr rest gln rfl gS.links3 (ec_R_zero hr4) A hD) kv_L_addAll hK hP rfl rfl rfl hS wd_260 ⟨Nat.le_of_ble_eq_true rfl, Nat.le_of_ble_eq_true rfl⟩ ⟨rfl, rfl⟩ rfl hl.1 rfl (Nat.le_of_ble_eq_true rfl) d_F_drawSides_15 ⟨Nat.zero_le _, Nat.zero_le _⟩ (fun ur15 H locs hr15 hP hS => ?_)
  replace hr15 : ur15.1 = ln ∧ (∀ j, j < ln → ur15.2.1 j = lf j ∧ ur15.2.2.1 j = lt j) ∧ ec_R ur15.2.2.2 (ec_E ln lf lt) := hr15
  replace hP : va_P (dC, dI) vwCl (wX a cI cZ cJ pn px py ln lf lt lr ur15.1 ur15.2.1 ur15.2.2.1 ur15.2.2.2 th hn qx qy mn mc mk mo mr ++ rest) H := hP
  replace hD : va_D A (wX a cI cZ cJ pn px py ln lf lt lr ur15.1 ur15.2.1 ur15.2.2.1 ur15.2.2.2 th hn qx qy mn mc mk mo mr ++ rest) := ec_Dk hD rfl
  refine lv_iconst (v := nI 0) hx hb d_F_drawSides_18 (by decide) ?_
  refine lv_istore_n hx hb d_F_drawSides_19 rfl hl (by decide) rfl (fun ls hl => ?_)
  replace hl : lv_has ls 3 [(1, .int (nI 0)), (0, .ref (a 1))] := hl
  obtain ⟨i, e_i⟩ : ∃ z : Nat, z = 0 := ⟨_, rfl⟩
  obtain ⟨vn, e_vn⟩ : ∃ z : Nat, z = ur15.1 := ⟨_, rfl⟩
  obtain ⟨vf, e_vf⟩ : ∃ z : Nat → Nat, z = ur15.2.1 := ⟨_, rfl⟩
  obtain ⟨vt, e_vt⟩ : ∃ z : Nat → Nat, z = ur15.2.2.1 := ⟨_, rfl⟩
  obtain ⟨vr, e_vr⟩ : ∃ z : Nat → Nat, z = ur15.2.2.2 := ⟨_, rfl⟩
  replace hl : lv_has ls 3 [(0, .ref (a 1)), (1, .int (nI i))] := by (try simp only [e_i, e_vn, e_vf, e_vt, e_vr]); exact lv_sub hl [1, 0] rfl
  replace hP : va_P (dC, dI) vwCl (wX a cI cZ cJ pn px py ln lf lt lr vn vf vt vr th hn qx qy mn mc mk mo mr ++ rest) H := by (try simp only [e_i, e_vn, e_vf, e_vt, e_vr]); exact hP
  replace hD : va_D A (wX a cI cZ cJ pn px py ln lf lt lr vn vf vt vr th hn qx qy mn mc mk mo mr ++ rest) := ec_Dk hD rfl
  have hle : i ≤ pn := by omega
  have hJ : ec_DS pn px py (ec_E ln lf lt) vn vf vt vr i (i + 1) := by simp only [e_i, e_vn, e_vf, e_vt, e_vr]; exact ec_DS.start gS hr15
  clear e_vr e_vt e_vf e_vn e_i
  generalize hk20 : pn - i = k20
  induction k20 using Nat.strongRecOn generalizing i vn vf vt vr ls H locs with
  | ind k20 ih20 =>
  refine lv_iload_n hx hb d_F_drawSides_20 rfl (lv_at hl 1 rfl) ?_
  refine lv_aload_n hx hb d_F_drawSides_21 rfl (lv_at hl 0 rfl) ?_
  refine va_get (D := (dC, dI)) (ci := 2) (v := .ref (a 2)) (C := R_F) (T := T_F) (N := 4) hx hb htb in_F hown hK hP 1 rfl rfl 0 (by decide) (htb _ wd_70) (fun _ h9 => h9) rfl d_F_drawSides_22 ?_
  refine va_getN (D := (dC, dI)) (ci := 0) (v := .int (nI pn)) (C := R_P) (T := T_P) (N := 3) hx hb htb in_P hown hK hP 2 rfl rfl 2 (by decide) (htb _ wd_39) (fun _ h9 => h9) rfl d_F_drawSides_25 ?_
  refine ec_icmp_ge (tgt := 76) hx hb d_F_drawSides_28 rfl (by omega) (by omega) (fun h28 => ?_) (fun h28 => ?_)
  · exact W.vret hx hb hr (fun tS ht hW => ⟨⟨(vn, vf, vt, vr), rfl, (hJ.fin (by omega)), by show va_P _ _ _ tS.heap; rw [ht]; exact hP⟩, hS.F ht⟩) hS.2.2 d_F_drawSides_76
  · refine lv_iload_n hx hb d_F_drawSides_31 rfl (lv_at hl 1 rfl) ?_
    refine lv_iconst (v := nI 1) hx hb d_F_drawSides_32 (by decide) ?_
    refine ec_iadd hx hb d_F_drawSides_33 ?_
    refine lv_istore_n hx hb d_F_drawSides_34 rfl hl (by decide) rfl (fun ls hl => ?_)
    replace hl : lv_has ls 3 [(2, .int (nI (i + 1))), (0, .ref (a 1)), (1, .int (nI i))] := hl
    obtain ⟨j, e_j⟩ : ∃ z : Nat, z = i + 1 := ⟨_, rfl⟩
    obtain ⟨wn, e_wn⟩ : ∃ z : Nat, z = vn := ⟨_, rfl⟩
    obtain ⟨wf, e_wf⟩ : ∃ z : Nat → Nat, z = vf := ⟨_, rfl⟩
    obtain ⟨wt, e_wt⟩ : ∃ z : Nat → Nat, z = vt := ⟨_, rfl⟩
    obtain ⟨wr, e_wr⟩ : ∃ z : Nat → Nat, z = vr := ⟨_, rfl⟩
    replace hl : lv_has ls 3 [(0, .ref (a 1)), (1, .int (nI i)), (2, .int (nI j))] := by (try simp only [e_j, e_wn, e_wf, e_wt, e_wr]); exact lv_sub hl [1, 2, 0] rfl
    replace hP : va_P (dC, dI) vwCl (wX a cI cZ cJ pn px py ln lf lt lr wn wf wt wr th hn qx qy mn mc mk mo mr ++ rest) H := by (try simp only [e_j, e_wn, e_wf, e_wt, e_wr]); exact hP
    replace hD : va_D A (wX a cI cZ cJ pn px py ln lf lt lr wn wf wt wr th hn qx qy mn mc mk mo mr ++ rest) := ec_Dk hD rfl
    have hle2 : j ≤ pn := by omega
    have hij : i < j := by omega
    have hJ2 : ec_DS pn px py (ec_E ln lf lt) wn wf wt wr i j := by simp only [e_j, e_wn, e_wf, e_wt, e_wr]; exact hJ
    clear e_wr e_wt e_wf e_wn e_j
    generalize hk35 : pn - j = k35
    induction k35 using Nat.strongRecOn generalizing j wn wf wt wr ls H locs with
    | ind k35 ih35 =>
    refine lv_iload_n hx hb d_F_drawSides_35 rfl (lv_at hl 2 rfl) ?_
    refine lv_aload_n hx hb d_F_drawSides_36 rfl (lv_at hl 0 rfl) ?_
    refine va_get (D := (dC, dI)) (ci := 2) (v := .ref (a 2)) (C := R_F) (T := T_F) (N := 4) hx hb htb in_F hown hK hP 1 rfl rfl 0 (by decide) (htb _ wd_70) (fun _ h9 => h9) rfl d_F_drawSides_37 ?_
    refine va_getN (D := (dC, dI)) (ci := 0) (v := .int (nI pn)) (C := R_P) (T := T_P) (N := 3) hx hb htb in_P hown hK hP 2 rfl rfl 2 (by decide) (htb _ wd_39) (fun _ h9 => h9) rfl d_F_drawSides_40 ?_
    refine ec_icmp_ge (tgt := 70) hx hb d_F_drawSides_43 rfl (by omega) (by omega) (fun h43 => ?_) (fun h43 => ?_)
    · refine ec_iinc (k := 1) hx hb d_F_drawSides_70 hl rfl (by decide) rfl (fun ls hl => ?_)
      replace hl : lv_has ls 3 [(1, .int (nI (i + 1))), (0, .ref (a 1)), (2, .int (nI j))] := hl
      refine lv_goto (tgt := 20) hx hb d_F_drawSides_73 rfl ?_
      exact ih20 _ (by omega) (i := i + 1) (vn := wn) (vf := wf) (vt := wt) (vr := wr) (ls := ls) (H := H) (locs := locs) (hS := hS) (hl := lv_sub hl [1, 0] rfl) (hP := hP) (hD := hD) (hle := (by omega)) (hJ := (hJ2.row (by omega))) (hk20 := rfl)
    · refine lv_aload_n hx hb d_F_drawSides_46 rfl (lv_at hl 0 rfl) ?_
      refine lv_iload_n hx hb d_F_drawSides_47 rfl (lv_at hl 1 rfl) ?_
      refine lv_iload_n hx hb d_F_drawSides_48 rfl (lv_at hl 2 rfl) ?_
      refine ec_vSi (C := "ExactMesh$FullMesh") (ci := 2) (q := (R_F, T_F, 4)) (q0 := 1) (As := [.int (nI i), .int (nI j)]) (rest := []) ⟨hx, hb, hml, hown, htb⟩ (c_F_hasRoom l dC dI a cI cZ cJ pn px py ln lf lt lr wn wf wt wr th hn qx qy mn mc mk mo mr rest i j g12 gN (by omega) (by omega) hJ2.2.2.2 hJ2.2.2.1.1 hJ2.lt) kv_F_hasRoom hK hP rfl rfl rfl wd_265 ⟨Nat.le_of_ble_eq_true rfl, Nat.le_of_ble_eq_true rfl⟩ ⟨rfl, rfl⟩ rfl hl.1 rfl (Nat.le_of_ble_eq_true rfl) d_F_drawSides_49 ⟨Nat.zero_le _, Nat.zero_le _⟩ (fun r49 hr49 => ?_)
      replace hr49 : ec_isB r49 (ec_room pn px py wn wf wt wr i j) := hr49
      refine ec_if_eqB (tgt := 64) hx hb hr49 d_F_drawSides_52 rfl (fun h52 => ?_) (fun h52 => ?_)
      · refine ec_iinc (k := 2) hx hb d_F_drawSides_64 hl rfl (by decide) rfl (fun ls hl => ?_)
        replace hl : lv_has ls 3 [(2, .int (nI (j + 1))), (0, .ref (a 1)), (1, .int (nI i))] := hl
        refine lv_goto (tgt := 35) hx hb d_F_drawSides_67 rfl ?_
        exact ih35 _ (by omega) (j := j + 1) (wn := wn) (wf := wf) (wt := wt) (wr := wr) (ls := ls) (H := H) (locs := locs) (hS := hS) (hl := lv_sub hl [1, 2, 0] rfl) (hP := hP) (hD := hD) (hle2 := (by omega)) (hij := (by omega)) (hJ2 := (hJ2.skip (by omega) (by omega) h52)) (hk35 := rfl)
      · refine lv_aload_n hx hb d_F_drawSides_55 rfl (lv_at hl 0 rfl) ?_
        refine va_get (D := (dC, dI)) (ci := 2) (v := .ref (a 9)) (C := R_F) (T := T_F) (N := 4) hx hb htb in_F hown hK hP 1 rfl rfl 2 (by decide) (htb _ wd_76) (fun _ h9 => h9) rfl d_F_drawSides_56 ?_
        refine lv_iload_n hx hb d_F_drawSides_59 rfl (lv_at hl 1 rfl) ?_
        refine lv_iload_n hx hb d_F_drawSides_60 rfl (lv_at hl 2 rfl) ?_
        refine ec_vQv (C := "ExactMesh$Links") (ci := 1) (q := (R_L, T_L, 4)) (q0 := 9) (As := [.int (nI i), .int (nI j)]) (rest := []) ⟨hx, hb, hml, hown, htb⟩ (c_S_add l dC dI a cI cZ cJ pn px py ln lf lt lr wn wf wt wr th hn qx qy mn mc mk mo mr rest i j hJ2.2.2.2 (ec_DS.small gS hJ2 hij h43 h52) (by omega) (by omega) A hD) kv_L_add hK hP rfl rfl rfl hS wd_272 ⟨Nat.le_of_ble_eq_true rfl, Nat.le_of_ble_eq_true rfl⟩ ⟨rfl, rfl⟩ rfl hl.1 rfl (Nat.le_of_ble_eq_true rfl) d_F_drawSides_61 ⟨Nat.zero_le _, Nat.zero_le _⟩ (fun ur61 H locs hr61 hP hS => ?_)
        replace hr61 : ur61 = () := hr61
        replace hP : va_P (dC, dI) vwCl (wX a cI cZ cJ pn px py ln lf lt lr (wn + 1) (va_up wf wn i) (va_up wt wn j) (va_up (va_up wr i (wr i ||| 2 ^ j)) j ((va_up wr i (wr i ||| 2 ^ j)) j ||| 2 ^ i)) th hn qx qy mn mc mk mo mr ++ rest) H := hP
        replace hD : va_D A (wX a cI cZ cJ pn px py ln lf lt lr (wn + 1) (va_up wf wn i) (va_up wt wn j) (va_up (va_up wr i (wr i ||| 2 ^ j)) j ((va_up wr i (wr i ||| 2 ^ j)) j ||| 2 ^ i)) th hn qx qy mn mc mk mo mr ++ rest) := ec_Dk hD rfl
        refine ec_iinc (k := 2) hx hb d_F_drawSides_64 hl rfl (by decide) rfl (fun ls hl => ?_)
        replace hl : lv_has ls 3 [(2, .int (nI (j + 1))), (0, .ref (a 1)), (1, .int (nI i))] := hl
        refine lv_goto (tgt := 35) hx hb d_F_drawSides_67 rfl ?_
        exact ih35 _ (by omega) (j := j + 1) (wn := wn + 1) (wf := va_up wf wn i) (wt := va_up wt wn j) (wr := va_up (va_up wr i (wr i ||| 2 ^ j)) j ((va_up wr i (wr i ||| 2 ^ j)) j ||| 2 ^ i)) (ls := ls) (H := H) (locs := locs) (hS := hS) (hl := lv_sub hl [1, 2, 0] rfl) (hP := hP) (hD := hD) (hle2 := (by omega)) (hij := (by omega)) (hJ2 := (ec_DS.add gS hJ2 hij h43 h52)) (hk35 := rfl)
