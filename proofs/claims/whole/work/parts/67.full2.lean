set_option maxRecDepth 100000 in
set_option maxHeartbeats 4000000 in
theorem c_F_setIfEmpty (l : Launch) (dC : Nat → ClassId) (dI : Nat → Nat → Nat) (a : Nat → Nat) (cI cZ cJ : ClassId) (pn : Nat) (px : Nat → Int32) (py : Nat → Int32) (ln : Nat) (lf : Nat → Nat) (lt : Nat → Nat) (lr : Nat → Nat) (sn : Nat) (sf : Nat → Nat) (st : Nat → Nat) (sr : Nat → Nat) (th : Nat → Option Nat) (hn : Nat) (qx : Nat → Int32) (qy : Nat → Int32) (mn : Nat) (mc : Nat → Nat) (mk : Nat → Prop) (mo : Nat → Option Nat) (mr : Nat → Nat) (rest : va_W) (i : Nat) (j : Nat) (k : Nat) (g12 : pn ≤ 12) (gN : ∀ i, i < pn → ec_near (px i) ∧ ec_near (py i)) (hi : i < pn) (hj : j < pn) (hk : k < pn) (A : Nat → Prop) (hD : va_D A (wX a cI cZ cJ pn px py ln lf lt lr sn sf st sr th hn qx qy mn mc mk mo mr ++ rest)) : Met l y_F_setIfEmpty (Cond.code y_F_setIfEmpty b_F_setIfEmpty 4 none :: ec_tbl) ({ frames := 3, cells := 0, slots := 0, locals := 75 }) (va_Pc [.ref (a 1), .int (nI i), .int (nI j), .int (nI k)] (fun U => va_P (dC, dI) vwCl (wX a cI cZ cJ pn px py ln lf lt lr sn sf st sr th hn qx qy mn mc mk mo mr ++ rest) U.heap ∧ va_K (dC, dI) vwCl (ec_tys cI cZ cJ) U)) (va_Qv (fun (u : Nat → Option Nat) => (ec_ins pn px py i j k ∧ u = th) ∨ (¬ ec_ins pn px py i j k ∧ u = ec_tri3 th i j k)) (fun u t => va_P (dC, dI) vwCl (wX a cI cZ cJ pn px py ln lf lt lr sn sf st sr u hn qx qy mn mc mk mo mr ++ rest) t.heap) A) 0 0 A := by
  refine Met.ofW (cc := b_F_setIfEmpty) (maxL := 4) (ret := none) (by decide) rfl ?_
  intro p e s m args below meth c s₁ B hml hv0
  obtain ⟨rfl, hP, hK⟩ := hv0
  have hx := B.exec
  have hb := B.bytes
  have hr := B.returns
  have hts := atoms_spec (ws := (Cond.code y_F_setIfEmpty b_F_setIfEmpty 4 none :: ec_tbl)) B.pre
  have htb : ∀ w ∈ ec_tbl, w.before _ s = true := fun w h => hts w (List.mem_cons_of_mem _ h)
  clear hts
  have hown : s.vm.findClass "ExactMesh$FullMesh" = some m.cls := findClass_of_methodNamed B.named
  have hlocks := B.notSynchronized
  have hl := lv_entry ([.ref (a 1), .int (nI i), .int (nI j), .int (nI k)]) (n := 4) (Nat.le_of_ble_eq_true rfl)
  rw [lg_entry_eq]
  generalize (lg_sl ([.ref (a 1), .int (nI i), .int (nI j), .int (nI k)]) ++ List.replicate (4 - (lg_sl ([.ref (a 1), .int (nI i), .int (nI j), .int (nI k)])).length) Slot.unset).toArray = ls at hl ⊢
  replace hl : lv_has ls 4 [(0, .ref (a 1)), (1, .int (nI i)), (2, .int (nI j)), (3, .int (nI k))] := hl
  refine ec_start (fun H locs hH hlocs => ?_)
  replace hP : va_P (dC, dI) vwCl (wX a cI cZ cJ pn px py ln lf lt lr sn sf st sr th hn qx qy mn mc mk mo mr ++ rest) H := by rw [hH]; exact hP
  have hS : va_S A s.heap H locs := by rw [hH, hlocs]; exact va_S.rf
  clear hH hlocs
  refine lv_aload_n hx hb d_F_setIfEmpty_0 rfl (lv_at hl 0 rfl) ?_
  refine va_get (D := (dC, dI)) (ci := 2) (v := .ref (a 2)) (C := R_F) (T := T_F) (N := 4) hx hb htb in_F hown hK hP 1 rfl rfl 0 (by decide) (htb _ wd_70) (fun _ h9 => h9) rfl d_F_setIfEmpty_1 ?_
  refine lv_iload_n hx hb d_F_setIfEmpty_4 rfl (lv_at hl 1 rfl) ?_
  refine lv_iload_n hx hb d_F_setIfEmpty_5 rfl (lv_at hl 2 rfl) ?_
  refine lv_iload_n hx hb d_F_setIfEmpty_6 rfl (lv_at hl 3 rfl) ?_
  refine ec_vSi (C := "ExactMesh$Points") (ci := 0) (q := (R_P, T_P, 3)) (q0 := 2) (As := [.int (nI i), .int (nI j), .int (nI k)]) (rest := []) ⟨hx, hb, hml, hown, htb⟩ (c_P_anyInside l dC dI a cI cZ cJ pn px py ln lf lt lr sn sf st sr th hn qx qy mn mc mk mo mr rest i j k g12 gN (by omega) (by omega) (by omega)) kv_P_anyInside hK hP rfl rfl rfl wd_287 ⟨Nat.le_of_ble_eq_true rfl, Nat.le_of_ble_eq_true rfl⟩ ⟨rfl, rfl⟩ rfl hl.1 rfl (Nat.le_of_ble_eq_true rfl) d_F_setIfEmpty_7 ⟨Nat.zero_le _, Nat.zero_le _⟩ (fun r7 hr7 => ?_)
  replace hr7 : ec_isB r7 (∃ v, v < pn ∧ 0 < ge_ori (ec_P px py i) (ec_P px py j) (ec_P px py v) ∧ 0 < ge_ori (ec_P px py j) (ec_P px py k) (ec_P px py v) ∧ 0 < ge_ori (ec_P px py k) (ec_P px py i) (ec_P px py v)) := hr7
  refine ec_if_neB (tgt := 20) hx hb hr7 d_F_setIfEmpty_10 rfl (fun h10 => ?_) (fun h10 => ?_)
  · exact W.vret hx hb hr (fun tS ht hW => ⟨⟨th, rfl, (Or.inl ⟨h10, rfl⟩), by show va_P _ _ _ tS.heap; rw [ht]; exact hP⟩, hS.F ht⟩) hS.2.2 d_F_setIfEmpty_20
  · refine lv_aload_n hx hb d_F_setIfEmpty_13 rfl (lv_at hl 0 rfl) ?_
    refine lv_iload_n hx hb d_F_setIfEmpty_14 rfl (lv_at hl 1 rfl) ?_
    refine lv_iload_n hx hb d_F_setIfEmpty_15 rfl (lv_at hl 2 rfl) ?_
    refine lv_iload_n hx hb d_F_setIfEmpty_16 rfl (lv_at hl 3 rfl) ?_
    refine ec_vQv (C := "ExactMesh$FullMesh") (ci := 2) (q := (R_F, T_F, 4)) (q0 := 1) (As := [.int (nI i), .int (nI j), .int (nI k)]) (rest := []) ⟨hx, hb, hml, hown, htb⟩ (c_F_setTriangle l dC dI a cI cZ cJ pn px py ln lf lt lr sn sf st sr th hn qx qy mn mc mk mo mr rest i j k (by omega) (by omega) (by omega) A hD) kv_F_setTriangle hK hP rfl rfl rfl hS wd_291 ⟨Nat.le_of_ble_eq_true rfl, Nat.le_of_ble_eq_true rfl⟩ ⟨rfl, rfl⟩ rfl hl.1 rfl (Nat.le_of_ble_eq_true rfl) d_F_setIfEmpty_17 ⟨Nat.zero_le _, Nat.zero_le _⟩ (fun ur17 H locs hr17 hP hS => ?_)
    replace hr17 : ur17 = () := hr17
    replace hP : va_P (dC, dI) vwCl (wX a cI cZ cJ pn px py ln lf lt lr sn sf st sr (va_up (va_up (va_up th (i * 12 + j) (some k)) (j * 12 + k) (some i)) (k * 12 + i) (some j)) hn qx qy mn mc mk mo mr ++ rest) H := hP
    replace hD : va_D A (wX a cI cZ cJ pn px py ln lf lt lr sn sf st sr (va_up (va_up (va_up th (i * 12 + j) (some k)) (j * 12 + k) (some i)) (k * 12 + i) (some j)) hn qx qy mn mc mk mo mr ++ rest) := ec_Dk hD rfl
    exact W.vret hx hb hr (fun tS ht hW => ⟨⟨va_up (va_up (va_up th (i * 12 + j) (some k)) (j * 12 + k) (some i)) (k * 12 + i) (some j), rfl, (Or.inr ⟨h10, rfl⟩), by show va_P _ _ _ tS.heap; rw [ht]; exact hP⟩, hS.F ht⟩) hS.2.2 d_F_setIfEmpty_20

set_option maxRecDepth 100000 in
set_option maxHeartbeats 4000000 in
theorem c_F_findTrianglesAt (l : Launch) (dC : Nat → ClassId) (dI : Nat → Nat → Nat) (a : Nat → Nat) (cI cZ cJ : ClassId) (pn : Nat) (px : Nat → Int32) (py : Nat → Int32) (ln : Nat) (lf : Nat → Nat) (lt : Nat → Nat) (lr : Nat → Nat) (sn : Nat) (sf : Nat → Nat) (st : Nat → Nat) (sr : Nat → Nat) (th : Nat → Option Nat) (hn : Nat) (qx : Nat → Int32) (qy : Nat → Int32) (mn : Nat) (mc : Nat → Nat) (mk : Nat → Prop) (mo : Nat → Option Nat) (mr : Nat → Nat) (rest : va_W) (i : Nat) (j : Nat) (gS : ec_SI pn px py ln lf lt lr) (gP : ec_PL pn px py (ec_E ln lf lt) sn sf st sr) (hij : i < j) (hj : j < pn) (hE : ec_E sn sf st i j) (hT : ec_TT pn px py sn sf st th (i * 144 + j * 12)) (A : Nat → Prop) (hD : va_D A (wX a cI cZ cJ pn px py ln lf lt lr sn sf st sr th hn qx qy mn mc mk mo mr ++ rest)) : Met l y_F_findTrianglesAt (Cond.code y_F_findTrianglesAt b_F_findTrianglesAt 4 none :: ec_tbl) ({ frames := 4, cells := 0, slots := 0, locals := 98 }) (va_Pc [.ref (a 1), .int (nI i), .int (nI j)] (fun U => va_P (dC, dI) vwCl (wX a cI cZ cJ pn px py ln lf lt lr sn sf st sr th hn qx qy mn mc mk mo mr ++ rest) U.heap ∧ va_K (dC, dI) vwCl (ec_tys cI cZ cJ) U)) (va_Qv (fun (u : Nat → Option Nat) => ec_TT pn px py sn sf st u (i * 144 + (j + 1) * 12)) (fun u t => va_P (dC, dI) vwCl (wX a cI cZ cJ pn px py ln lf lt lr sn sf st sr u hn qx qy mn mc mk mo mr ++ rest) t.heap) A) 0 0 A := by
  refine Met.ofW (cc := b_F_findTrianglesAt) (maxL := 4) (ret := none) (by decide) rfl ?_
  intro p e s m args below meth c s₁ B hml hv0
  obtain ⟨rfl, hP, hK⟩ := hv0
  have hx := B.exec
  have hb := B.bytes
  have hr := B.returns
  have hts := atoms_spec (ws := (Cond.code y_F_findTrianglesAt b_F_findTrianglesAt 4 none :: ec_tbl)) B.pre
  have htb : ∀ w ∈ ec_tbl, w.before _ s = true := fun w h => hts w (List.mem_cons_of_mem _ h)
  clear hts
  have hown : s.vm.findClass "ExactMesh$FullMesh" = some m.cls := findClass_of_methodNamed B.named
  have hlocks := B.notSynchronized
  have hl := lv_entry ([.ref (a 1), .int (nI i), .int (nI j)]) (n := 4) (Nat.le_of_ble_eq_true rfl)
  rw [lg_entry_eq]
  generalize (lg_sl ([.ref (a 1), .int (nI i), .int (nI j)]) ++ List.replicate (4 - (lg_sl ([.ref (a 1), .int (nI i), .int (nI j)])).length) Slot.unset).toArray = ls at hl ⊢
  replace hl : lv_has ls 4 [(0, .ref (a 1)), (1, .int (nI i)), (2, .int (nI j))] := hl
  refine ec_start (fun H locs hH hlocs => ?_)
  replace hP : va_P (dC, dI) vwCl (wX a cI cZ cJ pn px py ln lf lt lr sn sf st sr th hn qx qy mn mc mk mo mr ++ rest) H := by rw [hH]; exact hP
  have hS : va_S A s.heap H locs := by rw [hH, hlocs]; exact va_S.rf
  clear hH hlocs
  have g12 := gS.1
  have gN := gS.2.1
  have gln := gS.2.2.2.1
  refine lv_iload_n hx hb d_F_findTrianglesAt_0 rfl (lv_at hl 2 rfl) ?_
  refine lv_iconst (v := nI 1) hx hb d_F_findTrianglesAt_1 (by decide) ?_
  refine ec_iadd hx hb d_F_findTrianglesAt_2 ?_
  refine lv_istore_n hx hb d_F_findTrianglesAt_3 rfl hl (by decide) rfl (fun ls hl => ?_)
  replace hl : lv_has ls 4 [(3, .int (nI (j + 1))), (0, .ref (a 1)), (1, .int (nI i)), (2, .int (nI j))] := hl
  obtain ⟨k, e_k⟩ : ∃ z : Nat, z = j + 1 := ⟨_, rfl⟩
  obtain ⟨g, e_g⟩ : ∃ z : Nat → Option Nat, z = th := ⟨_, rfl⟩
  replace hl : lv_has ls 4 [(0, .ref (a 1)), (1, .int (nI i)), (2, .int (nI j)), (3, .int (nI k))] := by (try simp only [e_k, e_g]); exact lv_sub hl [1, 2, 3, 0] rfl
  replace hP : va_P (dC, dI) vwCl (wX a cI cZ cJ pn px py ln lf lt lr sn sf st sr g hn qx qy mn mc mk mo mr ++ rest) H := by (try simp only [e_k, e_g]); exact hP
  replace hD : va_D A (wX a cI cZ cJ pn px py ln lf lt lr sn sf st sr g hn qx qy mn mc mk mo mr ++ rest) := ec_Dk hD rfl
  have hle : k ≤ pn := by omega
  have hjk : j < k := by omega
  have hT : ec_TT pn px py sn sf st g (i * 144 + j * 12 + k) := by simp only [e_k, e_g]; exact ec_TT_j gS gP hT hj
  clear e_g e_k
  generalize hk4 : pn - k = k4
  induction k4 using Nat.strongRecOn generalizing k g ls H locs with
  | ind k4 ih4 =>
  refine lv_iload_n hx hb d_F_findTrianglesAt_4 rfl (lv_at hl 3 rfl) ?_
  refine lv_aload_n hx hb d_F_findTrianglesAt_5 rfl (lv_at hl 0 rfl) ?_
  refine va_get (D := (dC, dI)) (ci := 2) (v := .ref (a 2)) (C := R_F) (T := T_F) (N := 4) hx hb htb in_F hown hK hP 1 rfl rfl 0 (by decide) (htb _ wd_70) (fun _ h9 => h9) rfl d_F_findTrianglesAt_6 ?_
  refine va_getN (D := (dC, dI)) (ci := 0) (v := .int (nI pn)) (C := R_P) (T := T_P) (N := 3) hx hb htb in_P hown hK hP 2 rfl rfl 2 (by decide) (htb _ wd_39) (fun _ h9 => h9) rfl d_F_findTrianglesAt_9 ?_
  refine ec_icmp_ge (tgt := 75) hx hb d_F_findTrianglesAt_12 rfl (by omega) (by omega) (fun h12 => ?_) (fun h12 => ?_)
  · exact W.vret hx hb hr (fun tS ht hW => ⟨⟨g, rfl, (ec_TT_k gS gP hT h12 (by omega)), by show va_P _ _ _ tS.heap; rw [ht]; exact hP⟩, hS.F ht⟩) hS.2.2 d_F_findTrianglesAt_75
  · refine lv_aload_n hx hb d_F_findTrianglesAt_15 rfl (lv_at hl 0 rfl) ?_
    refine va_get (D := (dC, dI)) (ci := 2) (v := .ref (a 9)) (C := R_F) (T := T_F) (N := 4) hx hb htb in_F hown hK hP 1 rfl rfl 2 (by decide) (htb _ wd_76) (fun _ h9 => h9) rfl d_F_findTrianglesAt_16 ?_
    refine lv_iload_n hx hb d_F_findTrianglesAt_19 rfl (lv_at hl 1 rfl) ?_
    refine lv_iload_n hx hb d_F_findTrianglesAt_20 rfl (lv_at hl 3 rfl) ?_
    refine ec_vSi (C := "ExactMesh$Links") (ci := 1) (q := (R_L, T_L, 4)) (q0 := 9) (As := [.int (nI i), .int (nI k)]) (rest := []) ⟨hx, hb, hml, hown, htb⟩ (c_S_join l dC dI a cI cZ cJ pn px py ln lf lt lr sn sf st sr g hn qx qy mn mc mk mo mr rest i k (by omega) (by omega) gP.2.2.1.1) kv_L_join hK hP rfl rfl rfl wd_269 ⟨Nat.le_of_ble_eq_true rfl, Nat.le_of_ble_eq_true rfl⟩ ⟨rfl, rfl⟩ rfl hl.1 rfl (Nat.le_of_ble_eq_true rfl) d_F_findTrianglesAt_21 ⟨Nat.zero_le _, Nat.zero_le _⟩ (fun r21 hr21 => ?_)
    replace hr21 : ec_isB r21 ((sr i).testBit k = true) := hr21
    refine ec_if_eqB (tgt := 69) hx hb hr21 d_F_findTrianglesAt_24 rfl (fun h24 => ?_) (fun h24 => ?_)
    · refine ec_iinc (k := 3) hx hb d_F_findTrianglesAt_69 hl rfl (by decide) rfl (fun ls hl => ?_)
      replace hl : lv_has ls 4 [(3, .int (nI (k + 1))), (0, .ref (a 1)), (1, .int (nI i)), (2, .int (nI j))] := hl
      refine lv_goto (tgt := 4) hx hb d_F_findTrianglesAt_72 rfl ?_
      exact ih4 _ (by omega) (k := k + 1) (g := g) (ls := ls) (H := H) (locs := locs) (hS := hS) (hl := lv_sub hl [1, 2, 3, 0] rfl) (hP := hP) (hD := hD) (hle := (by omega)) (hjk := (by omega)) (hT := (ec_TT_c (ec_TT_no gS gP hT hij hjk h12 (Or.inl (fun q => h24 ((gP.2.2.1.2 i k (by omega) (by omega)).mpr q)))) (by omega))) (hk4 := rfl)
    · refine lv_aload_n hx hb d_F_findTrianglesAt_27 rfl (lv_at hl 0 rfl) ?_
      refine va_get (D := (dC, dI)) (ci := 2) (v := .ref (a 9)) (C := R_F) (T := T_F) (N := 4) hx hb htb in_F hown hK hP 1 rfl rfl 2 (by decide) (htb _ wd_76) (fun _ h9 => h9) rfl d_F_findTrianglesAt_28 ?_
      refine lv_iload_n hx hb d_F_findTrianglesAt_31 rfl (lv_at hl 2 rfl) ?_
      refine lv_iload_n hx hb d_F_findTrianglesAt_32 rfl (lv_at hl 3 rfl) ?_
      refine ec_vSi (C := "ExactMesh$Links") (ci := 1) (q := (R_L, T_L, 4)) (q0 := 9) (As := [.int (nI j), .int (nI k)]) (rest := []) ⟨hx, hb, hml, hown, htb⟩ (c_S_join l dC dI a cI cZ cJ pn px py ln lf lt lr sn sf st sr g hn qx qy mn mc mk mo mr rest j k (by omega) (by omega) gP.2.2.1.1) kv_L_join hK hP rfl rfl rfl wd_269 ⟨Nat.le_of_ble_eq_true rfl, Nat.le_of_ble_eq_true rfl⟩ ⟨rfl, rfl⟩ rfl hl.1 rfl (Nat.le_of_ble_eq_true rfl) d_F_findTrianglesAt_33 ⟨Nat.zero_le _, Nat.zero_le _⟩ (fun r33 hr33 => ?_)
      replace hr33 : ec_isB r33 ((sr j).testBit k = true) := hr33
      refine ec_if_eqB (tgt := 69) hx hb hr33 d_F_findTrianglesAt_36 rfl (fun h36 => ?_) (fun h36 => ?_)
      · refine ec_iinc (k := 3) hx hb d_F_findTrianglesAt_69 hl rfl (by decide) rfl (fun ls hl => ?_)
        replace hl : lv_has ls 4 [(3, .int (nI (k + 1))), (0, .ref (a 1)), (1, .int (nI i)), (2, .int (nI j))] := hl
        refine lv_goto (tgt := 4) hx hb d_F_findTrianglesAt_72 rfl ?_
        exact ih4 _ (by omega) (k := k + 1) (g := g) (ls := ls) (H := H) (locs := locs) (hS := hS) (hl := lv_sub hl [1, 2, 3, 0] rfl) (hP := hP) (hD := hD) (hle := (by omega)) (hjk := (by omega)) (hT := (ec_TT_c (ec_TT_no gS gP hT hij hjk h12 (Or.inr (fun q => h36 ((gP.2.2.1.2 j k (by omega) (by omega)).mpr q)))) (by omega))) (hk4 := rfl)
      · refine lv_aload_n hx hb d_F_findTrianglesAt_39 rfl (lv_at hl 0 rfl) ?_
        refine va_get (D := (dC, dI)) (ci := 2) (v := .ref (a 2)) (C := R_F) (T := T_F) (N := 4) hx hb htb in_F hown hK hP 1 rfl rfl 0 (by decide) (htb _ wd_70) (fun _ h9 => h9) rfl d_F_findTrianglesAt_40 ?_
        refine lv_iload_n hx hb d_F_findTrianglesAt_43 rfl (lv_at hl 1 rfl) ?_
        refine lv_iload_n hx hb d_F_findTrianglesAt_44 rfl (lv_at hl 2 rfl) ?_
        refine lv_iload_n hx hb d_F_findTrianglesAt_45 rfl (lv_at hl 3 rfl) ?_
        refine ec_vSi (C := "ExactMesh$Points") (ci := 0) (q := (R_P, T_P, 3)) (q0 := 2) (As := [.int (nI i), .int (nI j), .int (nI k)]) (rest := []) ⟨hx, hb, hml, hown, htb⟩ (c_P_sideOfLine l dC dI a cI cZ cJ pn px py ln lf lt lr sn sf st sr g hn qx qy mn mc mk mo mr rest i j k g12 gN (by omega) (by omega) (by omega)) kv_P_sideOfLine hK hP rfl rfl rfl wd_282 ⟨Nat.le_of_ble_eq_true rfl, Nat.le_of_ble_eq_true rfl⟩ ⟨rfl, rfl⟩ rfl hl.1 rfl (Nat.le_of_ble_eq_true rfl) d_F_findTrianglesAt_46 ⟨Nat.zero_le _, Nat.zero_le _⟩ (fun r46 hr46 => ?_)
        replace hr46 : r46 = ec_sgn (ge_ori (ec_P px py i) (ec_P px py j) (ec_P px py k)) := hr46
        subst hr46
        refine lv_if_le (tgt := 62) hx hb d_F_findTrianglesAt_49 rfl (fun h49 => ?_) (fun h49 => ?_)
        · refine lv_aload_n hx hb d_F_findTrianglesAt_62 rfl (lv_at hl 0 rfl) ?_
          refine lv_iload_n hx hb d_F_findTrianglesAt_63 rfl (lv_at hl 1 rfl) ?_
          refine lv_iload_n hx hb d_F_findTrianglesAt_64 rfl (lv_at hl 3 rfl) ?_
          refine lv_iload_n hx hb d_F_findTrianglesAt_65 rfl (lv_at hl 2 rfl) ?_
          refine ec_vQv (C := "ExactMesh$FullMesh") (ci := 2) (q := (R_F, T_F, 4)) (q0 := 1) (As := [.int (nI i), .int (nI k), .int (nI j)]) (rest := []) ⟨hx, hb, hml, hown, htb⟩ (c_F_setIfEmpty l dC dI a cI cZ cJ pn px py ln lf lt lr sn sf st sr g hn qx qy mn mc mk mo mr rest i k j g12 gN (by omega) (by omega) (by omega) A hD) kv_F_setIfEmpty hK hP rfl rfl rfl hS wd_283 ⟨Nat.le_of_ble_eq_true rfl, Nat.le_of_ble_eq_true rfl⟩ ⟨rfl, rfl⟩ rfl hl.1 rfl (Nat.le_of_ble_eq_true rfl) d_F_findTrianglesAt_66 ⟨Nat.zero_le _, Nat.zero_le _⟩ (fun ur66 H locs hr66 hP hS => ?_)
          replace hr66 : (ec_ins pn px py i k j ∧ ur66 = g) ∨ (¬ ec_ins pn px py i k j ∧ ur66 = ec_tri3 g i k j) := hr66
          replace hP : va_P (dC, dI) vwCl (wX a cI cZ cJ pn px py ln lf lt lr sn sf st sr ur66 hn qx qy mn mc mk mo mr ++ rest) H := hP
          replace hD : va_D A (wX a cI cZ cJ pn px py ln lf lt lr sn sf st sr ur66 hn qx qy mn mc mk mo mr ++ rest) := ec_Dk hD rfl
          refine ec_iinc (k := 3) hx hb d_F_findTrianglesAt_69 hl rfl (by decide) rfl (fun ls hl => ?_)
          replace hl : lv_has ls 4 [(3, .int (nI (k + 1))), (0, .ref (a 1)), (1, .int (nI i)), (2, .int (nI j))] := hl
          refine lv_goto (tgt := 4) hx hb d_F_findTrianglesAt_72 rfl ?_
          exact ih4 _ (by omega) (k := k + 1) (g := ur66) (ls := ls) (H := H) (locs := locs) (hS := hS) (hl := lv_sub hl [1, 2, 3, 0] rfl) (hP := hP) (hD := hD) (hle := (by omega)) (hjk := (by omega)) (hT := (ec_TT_c (ec_TT_set gS gP hT hij hjk h12 hE ((gP.2.2.1.2 j k (by omega) (by omega)).mp h36) ((gP.2.2.1.2 i k (by omega) (by omega)).mp h24) (Or.inr ⟨rfl, rfl, rfl⟩) (ec_TT_neg gS gP hE ((gP.2.2.1.2 j k (by omega) (by omega)).mp h36) ((gP.2.2.1.2 i k (by omega) (by omega)).mp h24) h49) hr66) (by omega))) (hk4 := rfl)
        · refine lv_aload_n hx hb d_F_findTrianglesAt_52 rfl (lv_at hl 0 rfl) ?_
          refine lv_iload_n hx hb d_F_findTrianglesAt_53 rfl (lv_at hl 1 rfl) ?_
          refine lv_iload_n hx hb d_F_findTrianglesAt_54 rfl (lv_at hl 2 rfl) ?_
          refine lv_iload_n hx hb d_F_findTrianglesAt_55 rfl (lv_at hl 3 rfl) ?_
          refine ec_vQv (C := "ExactMesh$FullMesh") (ci := 2) (q := (R_F, T_F, 4)) (q0 := 1) (As := [.int (nI i), .int (nI j), .int (nI k)]) (rest := []) ⟨hx, hb, hml, hown, htb⟩ (c_F_setIfEmpty l dC dI a cI cZ cJ pn px py ln lf lt lr sn sf st sr g hn qx qy mn mc mk mo mr rest i j k g12 gN (by omega) (by omega) (by omega) A hD) kv_F_setIfEmpty hK hP rfl rfl rfl hS wd_283 ⟨Nat.le_of_ble_eq_true rfl, Nat.le_of_ble_eq_true rfl⟩ ⟨rfl, rfl⟩ rfl hl.1 rfl (Nat.le_of_ble_eq_true rfl) d_F_findTrianglesAt_56 ⟨Nat.zero_le _, Nat.zero_le _⟩ (fun ur56 H locs hr56 hP hS => ?_)
          replace hr56 : (ec_ins pn px py i j k ∧ ur56 = g) ∨ (¬ ec_ins pn px py i j k ∧ ur56 = ec_tri3 g i j k) := hr56
          replace hP : va_P (dC, dI) vwCl (wX a cI cZ cJ pn px py ln lf lt lr sn sf st sr ur56 hn qx qy mn mc mk mo mr ++ rest) H := hP
          replace hD : va_D A (wX a cI cZ cJ pn px py ln lf lt lr sn sf st sr ur56 hn qx qy mn mc mk mo mr ++ rest) := ec_Dk hD rfl
          refine lv_goto (tgt := 69) hx hb d_F_findTrianglesAt_59 rfl ?_
          refine ec_iinc (k := 3) hx hb d_F_findTrianglesAt_69 hl rfl (by decide) rfl (fun ls hl => ?_)
          replace hl : lv_has ls 4 [(3, .int (nI (k + 1))), (0, .ref (a 1)), (1, .int (nI i)), (2, .int (nI j))] := hl
          refine lv_goto (tgt := 4) hx hb d_F_findTrianglesAt_72 rfl ?_
          exact ih4 _ (by omega) (k := k + 1) (g := ur56) (ls := ls) (H := H) (locs := locs) (hS := hS) (hl := lv_sub hl [1, 2, 3, 0] rfl) (hP := hP) (hD := hD) (hle := (by omega)) (hjk := (by omega)) (hT := (ec_TT_c (ec_TT_set gS gP hT hij hjk h12 hE ((gP.2.2.1.2 j k (by omega) (by omega)).mp h36) ((gP.2.2.1.2 i k (by omega) (by omega)).mp h24) (Or.inl ⟨rfl, rfl, rfl⟩) (ec_sgt h49) hr56) (by omega))) (hk4 := rfl)

set_option maxRecDepth 100000 in
set_option maxHeartbeats 4000000 in
theorem c_F_findTriangles (l : Launch) (dC : Nat → ClassId) (dI : Nat → Nat → Nat) (a : Nat → Nat) (cI cZ cJ : ClassId) (pn : Nat) (px : Nat → Int32) (py : Nat → Int32) (ln : Nat) (lf : Nat → Nat) (lt : Nat → Nat) (lr : Nat → Nat) (sn : Nat) (sf : Nat → Nat) (st : Nat → Nat) (sr : Nat → Nat) (th : Nat → Option Nat) (hn : Nat) (qx : Nat → Int32) (qy : Nat → Int32) (mn : Nat) (mc : Nat → Nat) (mk : Nat → Prop) (mo : Nat → Option Nat) (mr : Nat → Nat) (rest : va_W) (gS : ec_SI pn px py ln lf lt lr) (gP : ec_PL pn px py (ec_E ln lf lt) sn sf st sr) (A : Nat → Prop) (hD : va_D A (wX a cI cZ cJ pn px py ln lf lt lr sn sf st sr th hn qx qy mn mc mk mo mr ++ rest)) : Met l y_F_findTriangles (Cond.code y_F_findTriangles b_F_findTriangles 3 none :: ec_tbl) ({ frames := 5, cells := 0, slots := 0, locals := 121 }) (va_Pc [.ref (a 1)] (fun U => va_P (dC, dI) vwCl (wX a cI cZ cJ pn px py ln lf lt lr sn sf st sr th hn qx qy mn mc mk mo mr ++ rest) U.heap ∧ va_K (dC, dI) vwCl (ec_tys cI cZ cJ) U)) (va_Qv (fun (u : Nat → Option Nat) => ge_TF (ec_F u) = ge_TE pn (ec_P px py) (ec_E sn sf st)) (fun u t => va_P (dC, dI) vwCl (wX a cI cZ cJ pn px py ln lf lt lr sn sf st sr u hn qx qy mn mc mk mo mr ++ rest) t.heap) A) 0 0 A := by
  refine Met.ofW (cc := b_F_findTriangles) (maxL := 3) (ret := none) (by decide) rfl ?_
  intro p e s m args below meth c s₁ B hml hv0
  obtain ⟨rfl, hP, hK⟩ := hv0
  have hx := B.exec
  have hb := B.bytes
  have hr := B.returns
  have hts := atoms_spec (ws := (Cond.code y_F_findTriangles b_F_findTriangles 3 none :: ec_tbl)) B.pre
  have htb : ∀ w ∈ ec_tbl, w.before _ s = true := fun w h => hts w (List.mem_cons_of_mem _ h)
  clear hts
  have hown : s.vm.findClass "ExactMesh$FullMesh" = some m.cls := findClass_of_methodNamed B.named
  have hlocks := B.notSynchronized
  have hl := lv_entry ([.ref (a 1)]) (n := 3) (Nat.le_of_ble_eq_true rfl)
  rw [lg_entry_eq]
  generalize (lg_sl ([.ref (a 1)]) ++ List.replicate (3 - (lg_sl ([.ref (a 1)])).length) Slot.unset).toArray = ls at hl ⊢
  replace hl : lv_has ls 3 [(0, .ref (a 1))] := hl
  refine ec_start (fun H locs hH hlocs => ?_)
  replace hP : va_P (dC, dI) vwCl (wX a cI cZ cJ pn px py ln lf lt lr sn sf st sr th hn qx qy mn mc mk mo mr ++ rest) H := by rw [hH]; exact hP
  have hS : va_S A s.heap H locs := by rw [hH, hlocs]; exact va_S.rf
  clear hH hlocs
  have g12 := gS.1
  have gN := gS.2.1
  have gln := gS.2.2.2.1
  refine lv_aload_n hx hb d_F_findTriangles_0 rfl (lv_at hl 0 rfl) ?_
  refine va_get (D := (dC, dI)) (ci := 2) (v := .ref (a 13)) (C := R_F) (T := T_F) (N := 4) hx hb htb in_F hown hK hP 1 rfl rfl 3 (by decide) (htb _ wd_77) (fun _ h9 => h9) rfl d_F_findTriangles_1 ?_
  refine lv_iconst (v := -1) hx hb d_F_findTriangles_4 (by decide) ?_
  refine ec_sQv (As := [.ref (a 13), .int (-1)]) (rest := []) ⟨hx, hb, hml, hown, htb⟩ (c_fill_th l dC dI a cI cZ cJ pn px py ln lf lt lr sn sf st sr th hn qx qy mn mc mk mo mr rest A hD) ks_JA_fill hK hP hS wd_277 ⟨Nat.le_of_ble_eq_true rfl, Nat.le_of_ble_eq_true rfl⟩ ⟨rfl, rfl⟩ rfl hl.1 rfl (Nat.le_of_ble_eq_true rfl) d_F_findTriangles_5 ⟨Nat.zero_le _, Nat.zero_le _⟩ (fun ur5 H locs hr5 hP hS => ?_)
  replace hr5 : ∀ j, j < 144 → ur5 j = none := hr5
  replace hP : va_P (dC, dI) vwCl (wX a cI cZ cJ pn px py ln lf lt lr sn sf st sr ur5 hn qx qy mn mc mk mo mr ++ rest) H := hP
  replace hD : va_D A (wX a cI cZ cJ pn px py ln lf lt lr sn sf st sr ur5 hn qx qy mn mc mk mo mr ++ rest) := ec_Dk hD rfl
  refine lv_iconst (v := nI 0) hx hb d_F_findTriangles_8 (by decide) ?_
  refine lv_istore_n hx hb d_F_findTriangles_9 rfl hl (by decide) rfl (fun ls hl => ?_)
  replace hl : lv_has ls 3 [(1, .int (nI 0)), (0, .ref (a 1))] := hl
  obtain ⟨i, e_i⟩ : ∃ z : Nat, z = 0 := ⟨_, rfl⟩
  obtain ⟨g, e_g⟩ : ∃ z : Nat → Option Nat, z = ur5 := ⟨_, rfl⟩
  replace hl : lv_has ls 3 [(0, .ref (a 1)), (1, .int (nI i))] := by (try simp only [e_i, e_g]); exact lv_sub hl [1, 0] rfl
  replace hP : va_P (dC, dI) vwCl (wX a cI cZ cJ pn px py ln lf lt lr sn sf st sr g hn qx qy mn mc mk mo mr ++ rest) H := by (try simp only [e_i, e_g]); exact hP
  replace hD : va_D A (wX a cI cZ cJ pn px py ln lf lt lr sn sf st sr g hn qx qy mn mc mk mo mr ++ rest) := ec_Dk hD rfl
  have hle : i ≤ pn := by omega
  have hT : ec_TT pn px py sn sf st g (i * 144) := by simp only [e_i, e_g]; exact ec_TT_0 hr5
  clear e_g e_i
  generalize hk10 : pn - i = k10
  induction k10 using Nat.strongRecOn generalizing i g ls H locs with
  | ind k10 ih10 =>
  refine lv_iload_n hx hb d_F_findTriangles_10 rfl (lv_at hl 1 rfl) ?_
  refine lv_aload_n hx hb d_F_findTriangles_11 rfl (lv_at hl 0 rfl) ?_
  refine va_get (D := (dC, dI)) (ci := 2) (v := .ref (a 2)) (C := R_F) (T := T_F) (N := 4) hx hb htb in_F hown hK hP 1 rfl rfl 0 (by decide) (htb _ wd_70) (fun _ h9 => h9) rfl d_F_findTriangles_12 ?_
  refine va_getN (D := (dC, dI)) (ci := 0) (v := .int (nI pn)) (C := R_P) (T := T_P) (N := 3) hx hb htb in_P hown hK hP 2 rfl rfl 2 (by decide) (htb _ wd_39) (fun _ h9 => h9) rfl d_F_findTriangles_15 ?_
  refine ec_icmp_ge (tgt := 66) hx hb d_F_findTriangles_18 rfl (by omega) (by omega) (fun h18 => ?_) (fun h18 => ?_)
  · exact W.vret hx hb hr (fun tS ht hW => ⟨⟨g, rfl, (ec_TT_end gS gP hT (by omega)), by show va_P _ _ _ tS.heap; rw [ht]; exact hP⟩, hS.F ht⟩) hS.2.2 d_F_findTriangles_66
  · refine lv_iload_n hx hb d_F_findTriangles_21 rfl (lv_at hl 1 rfl) ?_
    refine lv_iconst (v := nI 1) hx hb d_F_findTriangles_22 (by decide) ?_
    refine ec_iadd hx hb d_F_findTriangles_23 ?_
    refine lv_istore_n hx hb d_F_findTriangles_24 rfl hl (by decide) rfl (fun ls hl => ?_)
    replace hl : lv_has ls 3 [(2, .int (nI (i + 1))), (0, .ref (a 1)), (1, .int (nI i))] := hl
    obtain ⟨j, e_j⟩ : ∃ z : Nat, z = i + 1 := ⟨_, rfl⟩
    obtain ⟨f, e_f⟩ : ∃ z : Nat → Option Nat, z = g := ⟨_, rfl⟩
    replace hl : lv_has ls 3 [(0, .ref (a 1)), (1, .int (nI i)), (2, .int (nI j))] := by (try simp only [e_j, e_f]); exact lv_sub hl [1, 2, 0] rfl
    replace hP : va_P (dC, dI) vwCl (wX a cI cZ cJ pn px py ln lf lt lr sn sf st sr f hn qx qy mn mc mk mo mr ++ rest) H := by (try simp only [e_j, e_f]); exact hP
    replace hD : va_D A (wX a cI cZ cJ pn px py ln lf lt lr sn sf st sr f hn qx qy mn mc mk mo mr ++ rest) := ec_Dk hD rfl
    have hle2 : j ≤ pn := by omega
    have hij : i < j := by omega
    have hT2 : ec_TT pn px py sn sf st f (i * 144 + j * 12) := by simp only [e_j, e_f]; exact ec_TT_i gS gP hT h18
    clear e_f e_j
    generalize hk25 : pn - j = k25
    induction k25 using Nat.strongRecOn generalizing j f ls H locs with
    | ind k25 ih25 =>
    refine lv_iload_n hx hb d_F_findTriangles_25 rfl (lv_at hl 2 rfl) ?_
    refine lv_aload_n hx hb d_F_findTriangles_26 rfl (lv_at hl 0 rfl) ?_
    refine va_get (D := (dC, dI)) (ci := 2) (v := .ref (a 2)) (C := R_F) (T := T_F) (N := 4) hx hb htb in_F hown hK hP 1 rfl rfl 0 (by decide) (htb _ wd_70) (fun _ h9 => h9) rfl d_F_findTriangles_27 ?_
    refine va_getN (D := (dC, dI)) (ci := 0) (v := .int (nI pn)) (C := R_P) (T := T_P) (N := 3) hx hb htb in_P hown hK hP 2 rfl rfl 2 (by decide) (htb _ wd_39) (fun _ h9 => h9) rfl d_F_findTriangles_30 ?_
    refine ec_icmp_ge (tgt := 60) hx hb d_F_findTriangles_33 rfl (by omega) (by omega) (fun h33 => ?_) (fun h33 => ?_)
    · refine ec_iinc (k := 1) hx hb d_F_findTriangles_60 hl rfl (by decide) rfl (fun ls hl => ?_)
      replace hl : lv_has ls 3 [(1, .int (nI (i + 1))), (0, .ref (a 1)), (2, .int (nI j))] := hl
      refine lv_goto (tgt := 10) hx hb d_F_findTriangles_63 rfl ?_
      exact ih10 _ (by omega) (i := i + 1) (g := f) (ls := ls) (H := H) (locs := locs) (hS := hS) (hl := lv_sub hl [1, 0] rfl) (hP := hP) (hD := hD) (hle := (by omega)) (hT := (ec_TT_row gS gP hT2 h33 (by omega))) (hk10 := rfl)
    · refine lv_aload_n hx hb d_F_findTriangles_36 rfl (lv_at hl 0 rfl) ?_
      refine va_get (D := (dC, dI)) (ci := 2) (v := .ref (a 9)) (C := R_F) (T := T_F) (N := 4) hx hb htb in_F hown hK hP 1 rfl rfl 2 (by decide) (htb _ wd_76) (fun _ h9 => h9) rfl d_F_findTriangles_37 ?_
      refine lv_iload_n hx hb d_F_findTriangles_40 rfl (lv_at hl 1 rfl) ?_
      refine lv_iload_n hx hb d_F_findTriangles_41 rfl (lv_at hl 2 rfl) ?_
      refine ec_vSi (C := "ExactMesh$Links") (ci := 1) (q := (R_L, T_L, 4)) (q0 := 9) (As := [.int (nI i), .int (nI j)]) (rest := []) ⟨hx, hb, hml, hown, htb⟩ (c_S_join l dC dI a cI cZ cJ pn px py ln lf lt lr sn sf st sr f hn qx qy mn mc mk mo mr rest i j (by omega) (by omega) gP.2.2.1.1) kv_L_join hK hP rfl rfl rfl wd_269 ⟨Nat.le_of_ble_eq_true rfl, Nat.le_of_ble_eq_true rfl⟩ ⟨rfl, rfl⟩ rfl hl.1 rfl (Nat.le_of_ble_eq_true rfl) d_F_findTriangles_42 ⟨Nat.zero_le _, Nat.zero_le _⟩ (fun r42 hr42 => ?_)
      replace hr42 : ec_isB r42 ((sr i).testBit j = true) := hr42
      refine ec_if_eqB (tgt := 54) hx hb hr42 d_F_findTriangles_45 rfl (fun h45 => ?_) (fun h45 => ?_)
      · refine ec_iinc (k := 2) hx hb d_F_findTriangles_54 hl rfl (by decide) rfl (fun ls hl => ?_)
        replace hl : lv_has ls 3 [(2, .int (nI (j + 1))), (0, .ref (a 1)), (1, .int (nI i))] := hl
        refine lv_goto (tgt := 25) hx hb d_F_findTriangles_57 rfl ?_
        exact ih25 _ (by omega) (j := j + 1) (f := f) (ls := ls) (H := H) (locs := locs) (hS := hS) (hl := lv_sub hl [1, 2, 0] rfl) (hP := hP) (hD := hD) (hle2 := (by omega)) (hij := (by omega)) (hT2 := (ec_TT_nj gS gP hT2 h33 (fun q => h45 ((gP.2.2.1.2 i j (by omega) (by omega)).mpr q)))) (hk25 := rfl)
      · refine lv_aload_n hx hb d_F_findTriangles_48 rfl (lv_at hl 0 rfl) ?_
        refine lv_iload_n hx hb d_F_findTriangles_49 rfl (lv_at hl 1 rfl) ?_
        refine lv_iload_n hx hb d_F_findTriangles_50 rfl (lv_at hl 2 rfl) ?_
        refine ec_vQv (C := "ExactMesh$FullMesh") (ci := 2) (q := (R_F, T_F, 4)) (q0 := 1) (As := [.int (nI i), .int (nI j)]) (rest := []) ⟨hx, hb, hml, hown, htb⟩ (c_F_findTrianglesAt l dC dI a cI cZ cJ pn px py ln lf lt lr sn sf st sr f hn qx qy mn mc mk mo mr rest i j gS gP (by omega) (by omega) ((gP.2.2.1.2 i j (by omega) (by omega)).mp h45) hT2 A hD) kv_F_findTrianglesAt hK hP rfl rfl rfl hS wd_278 ⟨Nat.le_of_ble_eq_true rfl, Nat.le_of_ble_eq_true rfl⟩ ⟨rfl, rfl⟩ rfl hl.1 rfl (Nat.le_of_ble_eq_true rfl) d_F_findTriangles_51 ⟨Nat.zero_le _, Nat.zero_le _⟩ (fun ur51 H locs hr51 hP hS => ?_)
        replace hr51 : ec_TT pn px py sn sf st ur51 (i * 144 + (j + 1) * 12) := hr51
        replace hP : va_P (dC, dI) vwCl (wX a cI cZ cJ pn px py ln lf lt lr sn sf st sr ur51 hn qx qy mn mc mk mo mr ++ rest) H := hP
        replace hD : va_D A (wX a cI cZ cJ pn px py ln lf lt lr sn sf st sr ur51 hn qx qy mn mc mk mo mr ++ rest) := ec_Dk hD rfl
        refine ec_iinc (k := 2) hx hb d_F_findTriangles_54 hl rfl (by decide) rfl (fun ls hl => ?_)
        replace hl : lv_has ls 3 [(2, .int (nI (j + 1))), (0, .ref (a 1)), (1, .int (nI i))] := hl
        refine lv_goto (tgt := 25) hx hb d_F_findTriangles_57 rfl ?_
        exact ih25 _ (by omega) (j := j + 1) (f := ur51) (ls := ls) (H := H) (locs := locs) (hS := hS) (hl := lv_sub hl [1, 2, 0] rfl) (hP := hP) (hD := hD) (hle2 := (by omega)) (hij := (by omega)) (hT2 := hr51) (hk25 := rfl)

set_option maxRecDepth 100000 in
set_option maxHeartbeats 4000000 in
theorem c_F_isBad (l : Launch) (dC : Nat → ClassId) (dI : Nat → Nat → Nat) (a : Nat → Nat) (cI cZ cJ : ClassId) (pn : Nat) (px : Nat → Int32) (py : Nat → Int32) (ln : Nat) (lf : Nat → Nat) (lt : Nat → Nat) (lr : Nat → Nat) (sn : Nat) (sf : Nat → Nat) (st : Nat → Nat) (sr : Nat → Nat) (th : Nat → Option Nat) (hn : Nat) (qx : Nat → Int32) (qy : Nat → Int32) (mn : Nat) (mc : Nat → Nat) (mk : Nat → Prop) (mo : Nat → Option Nat) (mr : Nat → Nat) (rest : va_W) (i : Nat) (j : Nat) (gS : ec_SI pn px py ln lf lt lr) (hi : i < pn) (hj : j < pn) (gT : ∀ x y z, x < 12 → y < 12 → th (x * 12 + y) = some z → z < pn) : Met l y_F_isBad (Cond.code y_F_isBad b_F_isBad 6 (some .boolean) :: ec_tbl) ({ frames := 3, cells := 0, slots := 0, locals := 84 }) (va_Pc [.ref (a 1), .int (nI i), .int (nI j)] (fun U => va_P (dC, dI) vwCl (wX a cI cZ cJ pn px py ln lf lt lr sn sf st sr th hn qx qy mn mc mk mo mr ++ rest) U.heap ∧ va_K (dC, dI) vwCl (ec_tys cI cZ cJ) U)) (vp_Si (fun r : Int32 => ec_isB r (ec_bad px py lr th i j))) 0 0 (fun _ => False) := by
  refine Met.ofW (cc := b_F_isBad) (maxL := 6) (ret := (some .boolean)) (by decide) rfl ?_
  intro p e s m args below meth c s₁ B hml hv0
  obtain ⟨rfl, hP, hK⟩ := hv0
  have hx := B.exec
  have hb := B.bytes
  have hr := B.returns
  have hts := atoms_spec (ws := (Cond.code y_F_isBad b_F_isBad 6 (some .boolean) :: ec_tbl)) B.pre
  have htb : ∀ w ∈ ec_tbl, w.before _ s = true := fun w h => hts w (List.mem_cons_of_mem _ h)
  clear hts
  have hown : s.vm.findClass "ExactMesh$FullMesh" = some m.cls := findClass_of_methodNamed B.named
  have hlocks := B.notSynchronized
  have hl := lv_entry ([.ref (a 1), .int (nI i), .int (nI j)]) (n := 6) (Nat.le_of_ble_eq_true rfl)
  rw [lg_entry_eq]
  generalize (lg_sl ([.ref (a 1), .int (nI i), .int (nI j)]) ++ List.replicate (6 - (lg_sl ([.ref (a 1), .int (nI i), .int (nI j)])).length) Slot.unset).toArray = ls at hl ⊢
  replace hl : lv_has ls 6 [(0, .ref (a 1)), (1, .int (nI i)), (2, .int (nI j))] := hl
  have g12 := gS.1
  have gN := gS.2.1
  have gln := gS.2.2.2.1
  refine lv_aload_n hx hb d_F_isBad_0 rfl (lv_at hl 0 rfl) ?_
  refine lv_iload_n hx hb d_F_isBad_1 rfl (lv_at hl 1 rfl) ?_
  refine lv_iload_n hx hb d_F_isBad_2 rfl (lv_at hl 2 rfl) ?_
  refine ec_vSi (C := "ExactMesh$FullMesh") (ci := 2) (q := (R_F, T_F, 4)) (q0 := 1) (As := [.int (nI i), .int (nI j)]) (rest := []) ⟨hx, hb, hml, hown, htb⟩ (c_F_thirdOf l dC dI a cI cZ cJ pn px py ln lf lt lr sn sf st sr th hn qx qy mn mc mk mo mr rest i j (by omega) (by omega)) kv_F_thirdOf hK hP rfl rfl rfl wd_311 ⟨Nat.le_of_ble_eq_true rfl, Nat.le_of_ble_eq_true rfl⟩ ⟨rfl, rfl⟩ rfl hl.1 rfl (Nat.le_of_ble_eq_true rfl) d_F_isBad_3 ⟨Nat.zero_le _, Nat.zero_le _⟩ (fun r3 hr3 => ?_)
  replace hr3 : r3 = ec_oi (th (i * 12 + j)) := hr3
  subst hr3
  refine lv_istore_n hx hb d_F_isBad_6 rfl hl (by decide) rfl (fun ls hl => ?_)
  replace hl : lv_has ls 6 [(3, .int (ec_oi (th (i * 12 + j)))), (0, .ref (a 1)), (1, .int (nI i)), (2, .int (nI j))] := hl
  refine lv_aload_n hx hb d_F_isBad_7 rfl (lv_at hl 1 rfl) ?_
  refine lv_iload_n hx hb d_F_isBad_8 rfl (lv_at hl 3 rfl) ?_
  refine lv_iload_n hx hb d_F_isBad_9 rfl (lv_at hl 2 rfl) ?_
  refine ec_vSi (C := "ExactMesh$FullMesh") (ci := 2) (q := (R_F, T_F, 4)) (q0 := 1) (As := [.int (nI j), .int (nI i)]) (rest := []) ⟨hx, hb, hml, hown, htb⟩ (c_F_thirdOf l dC dI a cI cZ cJ pn px py ln lf lt lr sn sf st sr th hn qx qy mn mc mk mo mr rest j i (by omega) (by omega)) kv_F_thirdOf hK hP rfl rfl rfl wd_311 ⟨Nat.le_of_ble_eq_true rfl, Nat.le_of_ble_eq_true rfl⟩ ⟨rfl, rfl⟩ rfl hl.1 rfl (Nat.le_of_ble_eq_true rfl) d_F_isBad_10 ⟨Nat.zero_le _, Nat.zero_le _⟩ (fun r10 hr10 => ?_)
  replace hr10 : r10 = ec_oi (th (j * 12 + i)) := hr10
  subst hr10
  refine lv_istore hx hb d_F_isBad_13 hl (by decide) rfl (fun ls hl => ?_)
  replace hl : lv_has ls 6 [(4, .int (ec_oi (th (j * 12 + i)))), (3, .int (ec_oi (th (i * 12 + j)))), (0, .ref (a 1)), (1, .int (nI i)), (2, .int (nI j))] := hl
  generalize hqvc : th (i * 12 + j) = ovc at hl ⊢
  cases ovc with
  | none =>
    replace hl : lv_has ls 6 [(4, .int (ec_oi (th (j * 12 + i)))), (3, .int (-1)), (0, .ref (a 1)), (1, .int (nI i)), (2, .int (nI j))] := hl
    generalize hqvd : th (j * 12 + i) = ovd at hl ⊢
    cases ovd with
    | none =>
      replace hl : lv_has ls 6 [(4, .int (-1)), (3, .int (-1)), (0, .ref (a 1)), (1, .int (nI i)), (2, .int (nI j))] := hl
      refine lv_iload_n hx hb d_F_isBad_15 rfl (lv_at hl 1 rfl) ?_
      refine lv_iconst (v := -1) hx hb d_F_isBad_16 (by decide) ?_
      refine lv_icmp_eq (tgt := 38) hx hb d_F_isBad_17 rfl (fun h17 => ?_) (fun h17 => ?_)
      · refine lv_iconst (v := nI 0) hx hb d_F_isBad_38 (by decide) ?_
        exact W.zret hx hb hr rfl (fun tS ht hW => ⟨_, rfl, (ec_isB.f0 (fun ⟨_, _, q, _⟩ => by rw [hqvc] at q; cases q)), ht⟩) (fun _ h => nomatch h) d_F_isBad_39
      · first | exact absurd rfl h17 | exact absurd h17 (by decide) | exact absurd h17 (ec_m1_ne (by omega)) | exact absurd (ec_m1_lt (by omega)) h17 | exact absurd (ec_m1_le (by omega)) h17 | exact absurd h17 (ec_m1_nlt (by omega)) | exact absurd h17 (ec_m1_nle (by omega))
    | some vd =>
      replace hl : lv_has ls 6 [(4, .int (nI vd)), (3, .int (-1)), (0, .ref (a 1)), (1, .int (nI i)), (2, .int (nI j))] := hl
      have hdl := gT j i vd (by omega) (by omega) hqvd
      refine lv_iload_n hx hb d_F_isBad_15 rfl (lv_at hl 1 rfl) ?_
      refine lv_iconst (v := -1) hx hb d_F_isBad_16 (by decide) ?_
      refine lv_icmp_eq (tgt := 38) hx hb d_F_isBad_17 rfl (fun h17_1 => ?_) (fun h17_1 => ?_)
      · refine lv_iconst (v := nI 0) hx hb d_F_isBad_38 (by decide) ?_
        exact W.zret hx hb hr rfl (fun tS ht hW => ⟨_, rfl, (ec_isB.f0 (fun ⟨_, _, q, _⟩ => by rw [hqvc] at q; cases q)), ht⟩) (fun _ h => nomatch h) d_F_isBad_39
      · first | exact absurd rfl h17_1 | exact absurd h17_1 (by decide) | exact absurd h17_1 (ec_m1_ne (by omega)) | exact absurd (ec_m1_lt (by omega)) h17_1 | exact absurd (ec_m1_le (by omega)) h17_1 | exact absurd h17_1 (ec_m1_nlt (by omega)) | exact absurd h17_1 (ec_m1_nle (by omega))
  | some vc =>
    replace hl : lv_has ls 6 [(4, .int (ec_oi (th (j * 12 + i)))), (3, .int (nI vc)), (0, .ref (a 1)), (1, .int (nI i)), (2, .int (nI j))] := hl
    have hcl := gT i j vc (by omega) (by omega) hqvc
    generalize hqvd : th (j * 12 + i) = ovd at hl ⊢
    cases ovd with
    | none =>
      replace hl : lv_has ls 6 [(4, .int (-1)), (3, .int (nI vc)), (0, .ref (a 1)), (1, .int (nI i)), (2, .int (nI j))] := hl
      refine lv_iload_n hx hb d_F_isBad_15 rfl (lv_at hl 1 rfl) ?_
      refine lv_iconst (v := -1) hx hb d_F_isBad_16 (by decide) ?_
      refine lv_icmp_eq (tgt := 38) hx hb d_F_isBad_17 rfl (fun h17_2 => ?_) (fun h17_2 => ?_)
      · first | exact absurd rfl h17_2 | exact absurd h17_2 (by decide) | exact absurd h17_2 (ec_m1_ne (by omega)) | exact absurd (ec_m1_lt (by omega)) h17_2 | exact absurd (ec_m1_le (by omega)) h17_2 | exact absurd h17_2 (ec_m1_nlt (by omega)) | exact absurd h17_2 (ec_m1_nle (by omega))
      · refine lv_iload hx hb d_F_isBad_20 (lv_at hl 0 rfl) ?_
        refine lv_iconst (v := -1) hx hb d_F_isBad_22 (by decide) ?_
        refine lv_icmp_eq (tgt := 38) hx hb d_F_isBad_23 rfl (fun h23 => ?_) (fun h23 => ?_)
        · refine lv_iconst (v := nI 0) hx hb d_F_isBad_38 (by decide) ?_
          exact W.zret hx hb hr rfl (fun tS ht hW => ⟨_, rfl, (ec_isB.f0 (fun ⟨_, _, _, q, _⟩ => by rw [hqvd] at q; cases q)), ht⟩) (fun _ h => nomatch h) d_F_isBad_39
        · first | exact absurd rfl h23 | exact absurd h23 (by decide) | exact absurd h23 (ec_m1_ne (by omega)) | exact absurd (ec_m1_lt (by omega)) h23 | exact absurd (ec_m1_le (by omega)) h23 | exact absurd h23 (ec_m1_nlt (by omega)) | exact absurd h23 (ec_m1_nle (by omega))
    | some vd =>
      replace hl : lv_has ls 6 [(4, .int (nI vd)), (3, .int (nI vc)), (0, .ref (a 1)), (1, .int (nI i)), (2, .int (nI j))] := hl
      have hdl := gT j i vd (by omega) (by omega) hqvd
      refine lv_iload_n hx hb d_F_isBad_15 rfl (lv_at hl 1 rfl) ?_
      refine lv_iconst (v := -1) hx hb d_F_isBad_16 (by decide) ?_
      refine lv_icmp_eq (tgt := 38) hx hb d_F_isBad_17 rfl (fun h17_3 => ?_) (fun h17_3 => ?_)
      · first | exact absurd rfl h17_3 | exact absurd h17_3 (by decide) | exact absurd h17_3 (ec_m1_ne (by omega)) | exact absurd (ec_m1_lt (by omega)) h17_3 | exact absurd (ec_m1_le (by omega)) h17_3 | exact absurd h17_3 (ec_m1_nlt (by omega)) | exact absurd h17_3 (ec_m1_nle (by omega))
      · refine lv_iload hx hb d_F_isBad_20 (lv_at hl 0 rfl) ?_
        refine lv_iconst (v := -1) hx hb d_F_isBad_22 (by decide) ?_
        refine lv_icmp_eq (tgt := 38) hx hb d_F_isBad_23 rfl (fun h23_1 => ?_) (fun h23_1 => ?_)
        · first | exact absurd rfl h23_1 | exact absurd h23_1 (by decide) | exact absurd h23_1 (ec_m1_ne (by omega)) | exact absurd (ec_m1_lt (by omega)) h23_1 | exact absurd (ec_m1_le (by omega)) h23_1 | exact absurd h23_1 (ec_m1_nlt (by omega)) | exact absurd h23_1 (ec_m1_nle (by omega))
        · refine lv_aload_n hx hb d_F_isBad_26 rfl (lv_at hl 2 rfl) ?_
          refine va_get (D := (dC, dI)) (ci := 2) (v := .ref (a 5)) (C := R_F) (T := T_F) (N := 4) hx hb htb in_F hown hK hP 1 rfl rfl 1 (by decide) (htb _ wd_73) (fun _ h9 => h9) rfl d_F_isBad_27 ?_
          refine lv_iload_n hx hb d_F_isBad_30 rfl (lv_at hl 3 rfl) ?_
          refine lv_iload_n hx hb d_F_isBad_31 rfl (lv_at hl 4 rfl) ?_
          refine ec_vSi (C := "ExactMesh$Links") (ci := 1) (q := (R_L, T_L, 4)) (q0 := 5) (As := [.int (nI i), .int (nI j)]) (rest := []) ⟨hx, hb, hml, hown, htb⟩ (c_L_join l dC dI a cI cZ cJ pn px py ln lf lt lr sn sf st sr th hn qx qy mn mc mk mo mr rest i j (by omega) (by omega) gS.2.2.2.2.2.2.1) kv_L_join hK hP rfl rfl rfl wd_269 ⟨Nat.le_of_ble_eq_true rfl, Nat.le_of_ble_eq_true rfl⟩ ⟨rfl, rfl⟩ rfl hl.1 rfl (Nat.le_of_ble_eq_true rfl) d_F_isBad_32 ⟨Nat.zero_le _, Nat.zero_le _⟩ (fun r32 hr32 => ?_)
          replace hr32 : ec_isB r32 ((lr i).testBit j = true) := hr32
          refine ec_if_eqB (tgt := 40) hx hb hr32 d_F_isBad_35 rfl (fun h35 => ?_) (fun h35 => ?_)
          · refine lv_aload_n hx hb d_F_isBad_40 rfl (lv_at hl 2 rfl) ?_
            refine va_get (D := (dC, dI)) (ci := 2) (v := .ref (a 2)) (C := R_F) (T := T_F) (N := 4) hx hb htb in_F hown hK hP 1 rfl rfl 0 (by decide) (htb _ wd_70) (fun _ h9 => h9) rfl d_F_isBad_41 ?_
            refine lv_iload_n hx hb d_F_isBad_44 rfl (lv_at hl 3 rfl) ?_
            refine lv_iload_n hx hb d_F_isBad_45 rfl (lv_at hl 4 rfl) ?_
            refine lv_iload_n hx hb d_F_isBad_46 rfl (lv_at hl 1 rfl) ?_
            refine lv_iload hx hb d_F_isBad_47 (lv_at hl 0 rfl) ?_
            refine ec_vSi (C := "ExactMesh$Points") (ci := 0) (q := (R_P, T_P, 3)) (q0 := 2) (As := [.int (nI i), .int (nI j), .int (nI vc), .int (nI vd)]) (rest := []) ⟨hx, hb, hml, hown, htb⟩ (c_P_sideOfCircle l dC dI a cI cZ cJ pn px py ln lf lt lr sn sf st sr th hn qx qy mn mc mk mo mr rest i j vc vd g12 gN (by omega) (by omega) hcl hdl) kv_P_sideOfCircle hK hP rfl rfl rfl wd_315 ⟨Nat.le_of_ble_eq_true rfl, Nat.le_of_ble_eq_true rfl⟩ ⟨rfl, rfl⟩ rfl hl.1 rfl (Nat.le_of_ble_eq_true rfl) d_F_isBad_49 ⟨Nat.zero_le _, Nat.zero_le _⟩ (fun r49 hr49 => ?_)
            replace hr49 : r49 = ec_sgn (ec_circ px py i j vc vd) := hr49
            subst hr49
            refine lv_topi (fun v1 e_v1 => ?_)
            refine lv_istore hx hb d_F_isBad_52 hl (by decide) rfl (fun ls hl => ?_)
            replace hl : lv_has ls 6 [(5, .int v1), (4, .int (nI vd)), (3, .int (nI vc)), (0, .ref (a 1)), (1, .int (nI i)), (2, .int (nI j))] := hl
            subst e_v1
            replace hl : lv_has ls 6 [(5, .int (ec_sgn (ec_circ px py i j vc vd))), (4, .int (nI vd)), (3, .int (nI vc)), (0, .ref (a 1)), (1, .int (nI i)), (2, .int (nI j))] := hl
            refine lv_iload hx hb d_F_isBad_54 (lv_at hl 0 rfl) ?_
            refine lv_if_gt (tgt := 78) hx hb d_F_isBad_56 rfl (fun h56 => ?_) (fun h56 => ?_)
            · refine lv_iconst (v := nI 1) hx hb d_F_isBad_78 (by decide) ?_
              refine lv_goto (tgt := 83) hx hb d_F_isBad_79 rfl ?_
              exact W.zret hx hb hr rfl (fun tS ht hW => ⟨_, rfl, (ec_isB.t1 ⟨vc, vd, hqvc, hqvd, h35, Or.inl (ec_spos h56)⟩), ht⟩) (fun _ h => nomatch h) d_F_isBad_83
            · refine lv_iload hx hb d_F_isBad_59 (lv_at hl 0 rfl) ?_
              refine lv_if_ne (tgt := 82) hx hb d_F_isBad_61 rfl (fun h61 => ?_) (fun h61 => ?_)
              · refine lv_iconst (v := nI 0) hx hb d_F_isBad_82 (by decide) ?_
                exact W.zret hx hb hr rfl (fun tS ht hW => ⟨_, rfl, (ec_isB.f0 (fun ⟨c1, d1, q1, q2, _, q4⟩ => by rw [hqvc] at q1; rw [hqvd] at q2; cases q1; cases q2; exact ec_bad_no1 h56 h61 q4)), ht⟩) (fun _ h => nomatch h) d_F_isBad_83
              · refine lv_iload_n hx hb d_F_isBad_64 rfl (lv_at hl 2 rfl) ?_
                refine lv_iload hx hb d_F_isBad_65 (lv_at hl 1 rfl) ?_
                refine va_mmin hx hb (hml.trans hl.1.symm) hown (htb _ wd_316) (htb _ wd_155) (htb _ wd_7) (htb _ wd_156) (Nat.le_of_ble_eq_true rfl) (Nat.le_of_ble_eq_true rfl) (Nat.zero_le _) (Nat.zero_le _) d_F_isBad_67 ?_
                refine lv_iload_n hx hb d_F_isBad_70 rfl (lv_at hl 4 rfl) ?_
                refine lv_iload_n hx hb d_F_isBad_71 rfl (lv_at hl 5 rfl) ?_
                refine va_mmin hx hb (hml.trans hl.1.symm) hown (htb _ wd_316) (htb _ wd_155) (htb _ wd_7) (htb _ wd_156) (Nat.le_of_ble_eq_true rfl) (Nat.le_of_ble_eq_true rfl) (Nat.zero_le _) (Nat.zero_le _) d_F_isBad_72 ?_
                refine lv_icmp_ge (tgt := 82) hx hb d_F_isBad_75 rfl (fun h75 => ?_) (fun h75 => ?_)
                · refine lv_iconst (v := nI 0) hx hb d_F_isBad_82 (by decide) ?_
                  exact W.zret hx hb hr rfl (fun tS ht hW => ⟨_, rfl, (ec_isB.f0 (fun ⟨c1, d1, q1, q2, _, q4⟩ => by rw [hqvc] at q1; rw [hqvd] at q2; cases q1; cases q2; exact ec_bad_no2 h56 (by omega) (by omega) (by omega) (by omega) h75 q4)), ht⟩) (fun _ h => nomatch h) d_F_isBad_83
                · refine lv_iconst (v := nI 1) hx hb d_F_isBad_78 (by decide) ?_
                  refine lv_goto (tgt := 83) hx hb d_F_isBad_79 rfl ?_
                  exact W.zret hx hb hr rfl (fun tS ht hW => ⟨_, rfl, (ec_isB.t1 ⟨vc, vd, hqvc, hqvd, h35, Or.inr ⟨ec_szero h61, ec_bad_min (by omega) (by omega) (by omega) (by omega) h75⟩⟩), ht⟩) (fun _ h => nomatch h) d_F_isBad_83
          · refine lv_iconst (v := nI 0) hx hb d_F_isBad_38 (by decide) ?_
            exact W.zret hx hb hr rfl (fun tS ht hW => ⟨_, rfl, (ec_isB.f0 (fun ⟨_, _, _, _, q, _⟩ => q h35)), ht⟩) (fun _ h => nomatch h) d_F_isBad_39

set_option maxRecDepth 100000 in
set_option maxHeartbeats 4000000 in
theorem c_F_flip (l : Launch) (dC : Nat → ClassId) (dI : Nat → Nat → Nat) (a : Nat → Nat) (cI cZ cJ : ClassId) (pn : Nat) (px : Nat → Int32) (py : Nat → Int32) (ln : Nat) (lf : Nat → Nat) (lt : Nat → Nat) (lr : Nat → Nat) (sn : Nat) (sf : Nat → Nat) (st : Nat → Nat) (sr : Nat → Nat) (th : Nat → Option Nat) (hn : Nat) (qx : Nat → Int32) (qy : Nat → Int32) (mn : Nat) (mc : Nat → Nat) (mk : Nat → Prop) (mo : Nat → Option Nat) (mr : Nat → Nat) (rest : va_W) (i : Nat) (j : Nat) (kc : Nat) (kd : Nat) (hi : i < 12) (hj : j < 12) (hc : kc < 12) (hd : kd < 12) (hqc : th (i * 12 + j) = some kc) (hqd : th (j * 12 + i) = some kd) (A : Nat → Prop) (hD : va_D A (wX a cI cZ cJ pn px py ln lf lt lr sn sf st sr th hn qx qy mn mc mk mo mr ++ rest)) : Met l y_F_flip (Cond.code y_F_flip b_F_flip 5 none :: ec_tbl) ({ frames := 2, cells := 0, slots := 0, locals := 46 }) (va_Pc [.ref (a 1), .int (nI i), .int (nI j)] (fun U => va_P (dC, dI) vwCl (wX a cI cZ cJ pn px py ln lf lt lr sn sf st sr th hn qx qy mn mc mk mo mr ++ rest) U.heap ∧ va_K (dC, dI) vwCl (ec_tys cI cZ cJ) U)) (va_Qv (fun (u : Unit) => u = ()) (fun u t => va_P (dC, dI) vwCl (wX a cI cZ cJ pn px py ln lf lt lr sn sf st sr (ec_flipth th i j kc kd) hn qx qy mn mc mk mo mr ++ rest) t.heap) A) 0 0 A := by
  refine Met.ofW (cc := b_F_flip) (maxL := 5) (ret := none) (by decide) rfl ?_
  intro p e s m args below meth c s₁ B hml hv0
  obtain ⟨rfl, hP, hK⟩ := hv0
  have hx := B.exec
  have hb := B.bytes
  have hr := B.returns
  have hts := atoms_spec (ws := (Cond.code y_F_flip b_F_flip 5 none :: ec_tbl)) B.pre
  have htb : ∀ w ∈ ec_tbl, w.before _ s = true := fun w h => hts w (List.mem_cons_of_mem _ h)
  clear hts
  have hown : s.vm.findClass "ExactMesh$FullMesh" = some m.cls := findClass_of_methodNamed B.named
  have hlocks := B.notSynchronized
  have hl := lv_entry ([.ref (a 1), .int (nI i), .int (nI j)]) (n := 5) (Nat.le_of_ble_eq_true rfl)
  rw [lg_entry_eq]
  generalize (lg_sl ([.ref (a 1), .int (nI i), .int (nI j)]) ++ List.replicate (5 - (lg_sl ([.ref (a 1), .int (nI i), .int (nI j)])).length) Slot.unset).toArray = ls at hl ⊢
  replace hl : lv_has ls 5 [(0, .ref (a 1)), (1, .int (nI i)), (2, .int (nI j))] := hl
  refine ec_start (fun H locs hH hlocs => ?_)
  replace hP : va_P (dC, dI) vwCl (wX a cI cZ cJ pn px py ln lf lt lr sn sf st sr th hn qx qy mn mc mk mo mr ++ rest) H := by rw [hH]; exact hP
  have hS : va_S A s.heap H locs := by rw [hH, hlocs]; exact va_S.rf
  clear hH hlocs
  refine lv_aload_n hx hb d_F_flip_0 rfl (lv_at hl 0 rfl) ?_
  refine lv_iload_n hx hb d_F_flip_1 rfl (lv_at hl 1 rfl) ?_
  refine lv_iload_n hx hb d_F_flip_2 rfl (lv_at hl 2 rfl) ?_
  refine ec_vSi (C := "ExactMesh$FullMesh") (ci := 2) (q := (R_F, T_F, 4)) (q0 := 1) (As := [.int (nI i), .int (nI j)]) (rest := []) ⟨hx, hb, hml, hown, htb⟩ (c_F_thirdOf l dC dI a cI cZ cJ pn px py ln lf lt lr sn sf st sr th hn qx qy mn mc mk mo mr rest i j (by omega) (by omega)) kv_F_thirdOf hK hP rfl rfl rfl wd_311 ⟨Nat.le_of_ble_eq_true rfl, Nat.le_of_ble_eq_true rfl⟩ ⟨rfl, rfl⟩ rfl hl.1 rfl (Nat.le_of_ble_eq_true rfl) d_F_flip_3 ⟨Nat.zero_le _, Nat.zero_le _⟩ (fun r3 hr3 => ?_)
  replace hr3 : r3 = ec_oi (th (i * 12 + j)) := hr3
  subst hr3
  rw [hqc]
  refine lv_istore_n hx hb d_F_flip_6 rfl hl (by decide) rfl (fun ls hl => ?_)
  replace hl : lv_has ls 5 [(3, .int (nI kc)), (0, .ref (a 1)), (1, .int (nI i)), (2, .int (nI j))] := hl
  refine lv_aload_n hx hb d_F_flip_7 rfl (lv_at hl 1 rfl) ?_
  refine lv_iload_n hx hb d_F_flip_8 rfl (lv_at hl 3 rfl) ?_
  refine lv_iload_n hx hb d_F_flip_9 rfl (lv_at hl 2 rfl) ?_
  refine ec_vSi (C := "ExactMesh$FullMesh") (ci := 2) (q := (R_F, T_F, 4)) (q0 := 1) (As := [.int (nI j), .int (nI i)]) (rest := []) ⟨hx, hb, hml, hown, htb⟩ (c_F_thirdOf l dC dI a cI cZ cJ pn px py ln lf lt lr sn sf st sr th hn qx qy mn mc mk mo mr rest j i (by omega) (by omega)) kv_F_thirdOf hK hP rfl rfl rfl wd_311 ⟨Nat.le_of_ble_eq_true rfl, Nat.le_of_ble_eq_true rfl⟩ ⟨rfl, rfl⟩ rfl hl.1 rfl (Nat.le_of_ble_eq_true rfl) d_F_flip_10 ⟨Nat.zero_le _, Nat.zero_le _⟩ (fun r10 hr10 => ?_)
  replace hr10 : r10 = ec_oi (th (j * 12 + i)) := hr10
  subst hr10
  rw [hqd]
  refine lv_istore hx hb d_F_flip_13 hl (by decide) rfl (fun ls hl => ?_)
  replace hl : lv_has ls 5 [(4, .int (nI kd)), (3, .int (nI kc)), (0, .ref (a 1)), (1, .int (nI i)), (2, .int (nI j))] := hl
  refine lv_aload_n hx hb d_F_flip_15 rfl (lv_at hl 2 rfl) ?_
  refine lv_iload_n hx hb d_F_flip_16 rfl (lv_at hl 3 rfl) ?_
  refine lv_iload_n hx hb d_F_flip_17 rfl (lv_at hl 4 rfl) ?_
  refine lv_iconst (v := -1) hx hb d_F_flip_18 (by decide) ?_
  refine ec_vQv (C := "ExactMesh$FullMesh") (ci := 2) (q := (R_F, T_F, 4)) (q0 := 1) (As := [.int (nI i), .int (nI j), .int (-1)]) (rest := []) ⟨hx, hb, hml, hown, htb⟩ (c_F_setThird l dC dI a cI cZ cJ pn px py ln lf lt lr sn sf st sr th hn qx qy mn mc mk mo mr rest i j none (by omega) (by omega) A hD) kv_F_setThird hK hP rfl rfl rfl hS wd_295 ⟨Nat.le_of_ble_eq_true rfl, Nat.le_of_ble_eq_true rfl⟩ ⟨rfl, rfl⟩ rfl hl.1 rfl (Nat.le_of_ble_eq_true rfl) d_F_flip_19 ⟨Nat.zero_le _, Nat.zero_le _⟩ (fun ur19 H locs hr19 hP hS => ?_)
  replace hr19 : ur19 = () := hr19
  replace hP : va_P (dC, dI) vwCl (wX a cI cZ cJ pn px py ln lf lt lr sn sf st sr (va_up th (i * 12 + j) none) hn qx qy mn mc mk mo mr ++ rest) H := hP
  replace hD : va_D A (wX a cI cZ cJ pn px py ln lf lt lr sn sf st sr (va_up th (i * 12 + j) none) hn qx qy mn mc mk mo mr ++ rest) := ec_Dk hD rfl
  refine lv_aload_n hx hb d_F_flip_22 rfl (lv_at hl 2 rfl) ?_
  refine lv_iload_n hx hb d_F_flip_23 rfl (lv_at hl 4 rfl) ?_
  refine lv_iload_n hx hb d_F_flip_24 rfl (lv_at hl 3 rfl) ?_
  refine lv_iconst (v := -1) hx hb d_F_flip_25 (by decide) ?_
  refine ec_vQv (C := "ExactMesh$FullMesh") (ci := 2) (q := (R_F, T_F, 4)) (q0 := 1) (As := [.int (nI j), .int (nI i), .int (-1)]) (rest := []) ⟨hx, hb, hml, hown, htb⟩ (c_F_setThird l dC dI a cI cZ cJ pn px py ln lf lt lr sn sf st sr (va_up th (i * 12 + j) none) hn qx qy mn mc mk mo mr rest j i none (by omega) (by omega) A hD) kv_F_setThird hK hP rfl rfl rfl hS wd_295 ⟨Nat.le_of_ble_eq_true rfl, Nat.le_of_ble_eq_true rfl⟩ ⟨rfl, rfl⟩ rfl hl.1 rfl (Nat.le_of_ble_eq_true rfl) d_F_flip_26 ⟨Nat.zero_le _, Nat.zero_le _⟩ (fun ur26 H locs hr26 hP hS => ?_)
  replace hr26 : ur26 = () := hr26
  replace hP : va_P (dC, dI) vwCl (wX a cI cZ cJ pn px py ln lf lt lr sn sf st sr (va_up (va_up th (i * 12 + j) none) (j * 12 + i) none) hn qx qy mn mc mk mo mr ++ rest) H := hP
  replace hD : va_D A (wX a cI cZ cJ pn px py ln lf lt lr sn sf st sr (va_up (va_up th (i * 12 + j) none) (j * 12 + i) none) hn qx qy mn mc mk mo mr ++ rest) := ec_Dk hD rfl
  refine lv_aload_n hx hb d_F_flip_29 rfl (lv_at hl 2 rfl) ?_
  refine lv_iload_n hx hb d_F_flip_30 rfl (lv_at hl 3 rfl) ?_
  refine lv_iload hx hb d_F_flip_31 (lv_at hl 0 rfl) ?_
  refine lv_iload_n hx hb d_F_flip_33 rfl (lv_at hl 1 rfl) ?_
  refine ec_vQv (C := "ExactMesh$FullMesh") (ci := 2) (q := (R_F, T_F, 4)) (q0 := 1) (As := [.int (nI i), .int (nI kd), .int (nI kc)]) (rest := []) ⟨hx, hb, hml, hown, htb⟩ (c_F_setTriangle l dC dI a cI cZ cJ pn px py ln lf lt lr sn sf st sr (va_up (va_up th (i * 12 + j) none) (j * 12 + i) none) hn qx qy mn mc mk mo mr rest i kd kc (by omega) (by omega) (by omega) A hD) kv_F_setTriangle hK hP rfl rfl rfl hS wd_291 ⟨Nat.le_of_ble_eq_true rfl, Nat.le_of_ble_eq_true rfl⟩ ⟨rfl, rfl⟩ rfl hl.1 rfl (Nat.le_of_ble_eq_true rfl) d_F_flip_34 ⟨Nat.zero_le _, Nat.zero_le _⟩ (fun ur34 H locs hr34 hP hS => ?_)
  replace hr34 : ur34 = () := hr34
  replace hP : va_P (dC, dI) vwCl (wX a cI cZ cJ pn px py ln lf lt lr sn sf st sr (va_up (va_up (va_up (va_up (va_up th (i * 12 + j) none) (j * 12 + i) none) (i * 12 + kd) (some kc)) (kd * 12 + kc) (some i)) (kc * 12 + i) (some kd)) hn qx qy mn mc mk mo mr ++ rest) H := hP
  replace hD : va_D A (wX a cI cZ cJ pn px py ln lf lt lr sn sf st sr (va_up (va_up (va_up (va_up (va_up th (i * 12 + j) none) (j * 12 + i) none) (i * 12 + kd) (some kc)) (kd * 12 + kc) (some i)) (kc * 12 + i) (some kd)) hn qx qy mn mc mk mo mr ++ rest) := ec_Dk hD rfl
  refine lv_aload_n hx hb d_F_flip_37 rfl (lv_at hl 2 rfl) ?_
  refine lv_iload hx hb d_F_flip_38 (lv_at hl 0 rfl) ?_
  refine lv_iload_n hx hb d_F_flip_40 rfl (lv_at hl 4 rfl) ?_
  refine lv_iload_n hx hb d_F_flip_41 rfl (lv_at hl 1 rfl) ?_
  refine ec_vQv (C := "ExactMesh$FullMesh") (ci := 2) (q := (R_F, T_F, 4)) (q0 := 1) (As := [.int (nI kd), .int (nI j), .int (nI kc)]) (rest := []) ⟨hx, hb, hml, hown, htb⟩ (c_F_setTriangle l dC dI a cI cZ cJ pn px py ln lf lt lr sn sf st sr (va_up (va_up (va_up (va_up (va_up th (i * 12 + j) none) (j * 12 + i) none) (i * 12 + kd) (some kc)) (kd * 12 + kc) (some i)) (kc * 12 + i) (some kd)) hn qx qy mn mc mk mo mr rest kd j kc (by omega) (by omega) (by omega) A hD) kv_F_setTriangle hK hP rfl rfl rfl hS wd_291 ⟨Nat.le_of_ble_eq_true rfl, Nat.le_of_ble_eq_true rfl⟩ ⟨rfl, rfl⟩ rfl hl.1 rfl (Nat.le_of_ble_eq_true rfl) d_F_flip_42 ⟨Nat.zero_le _, Nat.zero_le _⟩ (fun ur42 H locs hr42 hP hS => ?_)
  replace hr42 : ur42 = () := hr42
  replace hP : va_P (dC, dI) vwCl (wX a cI cZ cJ pn px py ln lf lt lr sn sf st sr (va_up (va_up (va_up (va_up (va_up (va_up (va_up (va_up th (i * 12 + j) none) (j * 12 + i) none) (i * 12 + kd) (some kc)) (kd * 12 + kc) (some i)) (kc * 12 + i) (some kd)) (kd * 12 + j) (some kc)) (j * 12 + kc) (some kd)) (kc * 12 + kd) (some j)) hn qx qy mn mc mk mo mr ++ rest) H := hP
  replace hD : va_D A (wX a cI cZ cJ pn px py ln lf lt lr sn sf st sr (va_up (va_up (va_up (va_up (va_up (va_up (va_up (va_up th (i * 12 + j) none) (j * 12 + i) none) (i * 12 + kd) (some kc)) (kd * 12 + kc) (some i)) (kc * 12 + i) (some kd)) (kd * 12 + j) (some kc)) (j * 12 + kc) (some kd)) (kc * 12 + kd) (some j)) hn qx qy mn mc mk mo mr ++ rest) := ec_Dk hD rfl
  exact W.vret hx hb hr (fun tS ht hW => ⟨⟨(), rfl, rfl, by show va_P _ _ _ tS.heap; rw [ht]; exact hP⟩, hS.F ht⟩) hS.2.2 d_F_flip_45

set_option maxRecDepth 100000 in
set_option maxHeartbeats 4000000 in
theorem c_F_flipBadSides (l : Launch) (dC : Nat → ClassId) (dI : Nat → Nat → Nat) (a : Nat → Nat) (cI cZ cJ : ClassId) (pn : Nat) (px : Nat → Int32) (py : Nat → Int32) (ln : Nat) (lf : Nat → Nat) (lt : Nat → Nat) (lr : Nat → Nat) (sn : Nat) (sf : Nat → Nat) (st : Nat → Nat) (sr : Nat → Nat) (th : Nat → Option Nat) (hn : Nat) (qx : Nat → Int32) (qy : Nat → Int32) (mn : Nat) (mc : Nat → Nat) (mk : Nat → Prop) (mo : Nat → Option Nat) (mr : Nat → Nat) (rest : va_W) (gS : ec_SI pn px py ln lf lt lr) (hG : ec_GM pn px py ln lf lt th) (A : Nat → Prop) (hD : va_D A (wX a cI cZ cJ pn px py ln lf lt lr sn sf st sr th hn qx qy mn mc mk mo mr ++ rest)) : Met l y_F_flipBadSides (Cond.code y_F_flipBadSides b_F_flipBadSides 4 (some .boolean) :: ec_tbl) ({ frames := 4, cells := 0, slots := 0, locals := 109 }) (va_Pc [.ref (a 1)] (fun U => va_P (dC, dI) vwCl (wX a cI cZ cJ pn px py ln lf lt lr sn sf st sr th hn qx qy mn mc mk mo mr ++ rest) U.heap ∧ va_K (dC, dI) vwCl (ec_tys cI cZ cJ) U)) (va_Qi (fun (r : Int32) (u : Nat × (Nat → Option Nat)) => r = nI u.1 ∧ ec_FR pn px py ln lf lt lr th u.2 u.1) (fun u t => va_P (dC, dI) vwCl (wX a cI cZ cJ pn px py ln lf lt lr sn sf st sr u.2 hn qx qy mn mc mk mo mr ++ rest) t.heap) A) 0 0 A := by
  refine Met.ofW (cc := b_F_flipBadSides) (maxL := 4) (ret := (some .boolean)) (by decide) rfl ?_
  intro p e s m args below meth c s₁ B hml hv0
  obtain ⟨rfl, hP, hK⟩ := hv0
  have hx := B.exec
  have hb := B.bytes
  have hr := B.returns
  have hts := atoms_spec (ws := (Cond.code y_F_flipBadSides b_F_flipBadSides 4 (some .boolean) :: ec_tbl)) B.pre
  have htb : ∀ w ∈ ec_tbl, w.before _ s = true := fun w h => hts w (List.mem_cons_of_mem _ h)
  clear hts
  have hown : s.vm.findClass "ExactMesh$FullMesh" = some m.cls := findClass_of_methodNamed B.named
  have hlocks := B.notSynchronized
  have hl := lv_entry ([.ref (a 1)]) (n := 4) (Nat.le_of_ble_eq_true rfl)
  rw [lg_entry_eq]
  generalize (lg_sl ([.ref (a 1)]) ++ List.replicate (4 - (lg_sl ([.ref (a 1)])).length) Slot.unset).toArray = ls at hl ⊢
  replace hl : lv_has ls 4 [(0, .ref (a 1))] := hl
  refine ec_start (fun H locs hH hlocs => ?_)
  replace hP : va_P (dC, dI) vwCl (wX a cI cZ cJ pn px py ln lf lt lr sn sf st sr th hn qx qy mn mc mk mo mr ++ rest) H := by rw [hH]; exact hP
  have hS : va_S A s.heap H locs := by rw [hH, hlocs]; exact va_S.rf
  clear hH hlocs
  have g12 := gS.1
  have gN := gS.2.1
  have gln := gS.2.2.2.1
  refine lv_iconst (v := nI 0) hx hb d_F_flipBadSides_0 (by decide) ?_
  refine lv_istore_n hx hb d_F_flipBadSides_1 rfl hl (by decide) rfl (fun ls hl => ?_)
  replace hl : lv_has ls 4 [(1, .int (nI 0)), (0, .ref (a 1))] := hl
  refine lv_iconst (v := nI 0) hx hb d_F_flipBadSides_2 (by decide) ?_
  refine lv_istore_n hx hb d_F_flipBadSides_3 rfl hl (by decide) rfl (fun ls hl => ?_)
  replace hl : lv_has ls 4 [(2, .int (nI 0)), (1, .int (nI 0)), (0, .ref (a 1))] := hl
  obtain ⟨i, e_i⟩ : ∃ z : Nat, z = 0 := ⟨_, rfl⟩
  obtain ⟨fb, e_fb⟩ : ∃ z : Nat, z = 0 := ⟨_, rfl⟩
  obtain ⟨g, e_g⟩ : ∃ z : Nat → Option Nat, z = th := ⟨_, rfl⟩
  replace hl : lv_has ls 4 [(0, .ref (a 1)), (1, .int (nI fb)), (2, .int (nI i))] := by (try simp only [e_i, e_fb, e_g]); exact lv_sub hl [2, 1, 0] rfl
  replace hP : va_P (dC, dI) vwCl (wX a cI cZ cJ pn px py ln lf lt lr sn sf st sr g hn qx qy mn mc mk mo mr ++ rest) H := by (try simp only [e_i, e_fb, e_g]); exact hP
  replace hD : va_D A (wX a cI cZ cJ pn px py ln lf lt lr sn sf st sr g hn qx qy mn mc mk mo mr ++ rest) := ec_Dk hD rfl
  have hle : i ≤ pn := by omega
  have hJ : ec_FB pn px py ln lf lt lr th g fb i (i + 1) := by simp only [e_i, e_fb, e_g]; exact ec_FB.start hG
  clear e_g e_fb e_i
  generalize hk4 : pn - i = k4
  induction k4 using Nat.strongRecOn generalizing i fb g ls H locs with
  | ind k4 ih4 =>
  refine lv_iload_n hx hb d_F_flipBadSides_4 rfl (lv_at hl 2 rfl) ?_
  refine lv_aload_n hx hb d_F_flipBadSides_5 rfl (lv_at hl 0 rfl) ?_
  refine va_get (D := (dC, dI)) (ci := 2) (v := .ref (a 2)) (C := R_F) (T := T_F) (N := 4) hx hb htb in_F hown hK hP 1 rfl rfl 0 (by decide) (htb _ wd_70) (fun _ h9 => h9) rfl d_F_flipBadSides_6 ?_
  refine va_getN (D := (dC, dI)) (ci := 0) (v := .int (nI pn)) (C := R_P) (T := T_P) (N := 3) hx hb htb in_P hown hK hP 2 rfl rfl 2 (by decide) (htb _ wd_39) (fun _ h9 => h9) rfl d_F_flipBadSides_9 ?_
  refine ec_icmp_ge (tgt := 59) hx hb d_F_flipBadSides_12 rfl (by omega) (by omega) (fun h12 => ?_) (fun h12 => ?_)
  · refine lv_iload_n hx hb d_F_flipBadSides_59 rfl (lv_at hl 1 rfl) ?_
    exact W.zret hx hb hr (ec_nar01 hJ.2.1) (fun tS ht hW => ⟨⟨_, (fb, g), rfl, ⟨rfl, hJ.fin h12⟩, by show va_P _ _ _ tS.heap; rw [ht]; exact hP⟩, hS.F ht⟩) hS.2.2 d_F_flipBadSides_60
  · refine lv_iload_n hx hb d_F_flipBadSides_15 rfl (lv_at hl 2 rfl) ?_
    refine lv_iconst (v := nI 1) hx hb d_F_flipBadSides_16 (by decide) ?_
    refine ec_iadd hx hb d_F_flipBadSides_17 ?_
    refine lv_istore_n hx hb d_F_flipBadSides_18 rfl hl (by decide) rfl (fun ls hl => ?_)
    replace hl : lv_has ls 4 [(3, .int (nI (i + 1))), (0, .ref (a 1)), (1, .int (nI fb)), (2, .int (nI i))] := hl
    obtain ⟨j, e_j⟩ : ∃ z : Nat, z = i + 1 := ⟨_, rfl⟩
    obtain ⟨fc, e_fc⟩ : ∃ z : Nat, z = fb := ⟨_, rfl⟩
    obtain ⟨f, e_f⟩ : ∃ z : Nat → Option Nat, z = g := ⟨_, rfl⟩
    replace hl : lv_has ls 4 [(0, .ref (a 1)), (1, .int (nI fc)), (2, .int (nI i)), (3, .int (nI j))] := by (try simp only [e_j, e_fc, e_f]); exact lv_sub hl [1, 2, 3, 0] rfl
    replace hP : va_P (dC, dI) vwCl (wX a cI cZ cJ pn px py ln lf lt lr sn sf st sr f hn qx qy mn mc mk mo mr ++ rest) H := by (try simp only [e_j, e_fc, e_f]); exact hP
    replace hD : va_D A (wX a cI cZ cJ pn px py ln lf lt lr sn sf st sr f hn qx qy mn mc mk mo mr ++ rest) := ec_Dk hD rfl
    have hle2 : j ≤ pn := by omega
    have hij : i < j := by omega
    have hJ2 : ec_FB pn px py ln lf lt lr th f fc i j := by simp only [e_j, e_fc, e_f]; exact hJ
    clear e_f e_fc e_j
    generalize hk19 : pn - j = k19
    induction k19 using Nat.strongRecOn generalizing j fc f ls H locs with
    | ind k19 ih19 =>
    refine lv_iload_n hx hb d_F_flipBadSides_19 rfl (lv_at hl 3 rfl) ?_
    refine lv_aload_n hx hb d_F_flipBadSides_20 rfl (lv_at hl 0 rfl) ?_
    refine va_get (D := (dC, dI)) (ci := 2) (v := .ref (a 2)) (C := R_F) (T := T_F) (N := 4) hx hb htb in_F hown hK hP 1 rfl rfl 0 (by decide) (htb _ wd_70) (fun _ h9 => h9) rfl d_F_flipBadSides_21 ?_
    refine va_getN (D := (dC, dI)) (ci := 0) (v := .int (nI pn)) (C := R_P) (T := T_P) (N := 3) hx hb htb in_P hown hK hP 2 rfl rfl 2 (by decide) (htb _ wd_39) (fun _ h9 => h9) rfl d_F_flipBadSides_24 ?_
    refine ec_icmp_ge (tgt := 53) hx hb d_F_flipBadSides_27 rfl (by omega) (by omega) (fun h27 => ?_) (fun h27 => ?_)
    · refine ec_iinc (k := 2) hx hb d_F_flipBadSides_53 hl rfl (by decide) rfl (fun ls hl => ?_)
      replace hl : lv_has ls 4 [(2, .int (nI (i + 1))), (0, .ref (a 1)), (1, .int (nI fc)), (3, .int (nI j))] := hl
      refine lv_goto (tgt := 4) hx hb d_F_flipBadSides_56 rfl ?_
      exact ih4 _ (by omega) (i := i + 1) (fb := fc) (g := f) (ls := ls) (H := H) (locs := locs) (hS := hS) (hl := lv_sub hl [1, 2, 0] rfl) (hP := hP) (hD := hD) (hle := (by omega)) (hJ := (hJ2.row h27)) (hk4 := rfl)
    · refine lv_aload_n hx hb d_F_flipBadSides_30 rfl (lv_at hl 0 rfl) ?_
      refine lv_iload_n hx hb d_F_flipBadSides_31 rfl (lv_at hl 2 rfl) ?_
      refine lv_iload_n hx hb d_F_flipBadSides_32 rfl (lv_at hl 3 rfl) ?_
      refine ec_vSi (C := "ExactMesh$FullMesh") (ci := 2) (q := (R_F, T_F, 4)) (q0 := 1) (As := [.int (nI i), .int (nI j)]) (rest := []) ⟨hx, hb, hml, hown, htb⟩ (c_F_isBad l dC dI a cI cZ cJ pn px py ln lf lt lr sn sf st sr f hn qx qy mn mc mk mo mr rest i j gS (by omega) (by omega) (fun x y z hx hy q => (hJ2.1.lts hx hy q).2.2)) kv_F_isBad hK hP rfl rfl rfl wd_307 ⟨Nat.le_of_ble_eq_true rfl, Nat.le_of_ble_eq_true rfl⟩ ⟨rfl, rfl⟩ rfl hl.1 rfl (Nat.le_of_ble_eq_true rfl) d_F_flipBadSides_33 ⟨Nat.zero_le _, Nat.zero_le _⟩ (fun r33 hr33 => ?_)
      replace hr33 : ec_isB r33 (ec_bad px py lr f i j) := hr33
      refine ec_if_eqB (tgt := 47) hx hb hr33 d_F_flipBadSides_36 rfl (fun h36 => ?_) (fun h36 => ?_)
      · refine ec_iinc (k := 3) hx hb d_F_flipBadSides_47 hl rfl (by decide) rfl (fun ls hl => ?_)
        replace hl : lv_has ls 4 [(3, .int (nI (j + 1))), (0, .ref (a 1)), (1, .int (nI fc)), (2, .int (nI i))] := hl
        refine lv_goto (tgt := 19) hx hb d_F_flipBadSides_50 rfl ?_
        exact ih19 _ (by omega) (j := j + 1) (fc := fc) (f := f) (ls := ls) (H := H) (locs := locs) (hS := hS) (hl := lv_sub hl [1, 2, 3, 0] rfl) (hP := hP) (hD := hD) (hle2 := (by omega)) (hij := (by omega)) (hJ2 := (hJ2.skip h36)) (hk19 := rfl)
      · obtain ⟨kc, kd, hqc, hqd, hnl, hbd⟩ := h36
        have hcl := hJ2.1.lts (by omega) (by omega) hqc
        have hdl := hJ2.1.lts (by omega) (by omega) hqd
        refine lv_aload_n hx hb d_F_flipBadSides_39 rfl (lv_at hl 0 rfl) ?_
        refine lv_iload_n hx hb d_F_flipBadSides_40 rfl (lv_at hl 2 rfl) ?_
        refine lv_iload_n hx hb d_F_flipBadSides_41 rfl (lv_at hl 3 rfl) ?_
        refine ec_vQv (C := "ExactMesh$FullMesh") (ci := 2) (q := (R_F, T_F, 4)) (q0 := 1) (As := [.int (nI i), .int (nI j)]) (rest := []) ⟨hx, hb, hml, hown, htb⟩ (c_F_flip l dC dI a cI cZ cJ pn px py ln lf lt lr sn sf st sr f hn qx qy mn mc mk mo mr rest i j kc kd (by omega) (by omega) (by omega) (by omega) hqc hqd A hD) kv_F_flip hK hP rfl rfl rfl hS wd_317 ⟨Nat.le_of_ble_eq_true rfl, Nat.le_of_ble_eq_true rfl⟩ ⟨rfl, rfl⟩ rfl hl.1 rfl (Nat.le_of_ble_eq_true rfl) d_F_flipBadSides_42 ⟨Nat.zero_le _, Nat.zero_le _⟩ (fun ur42 H locs hr42 hP hS => ?_)
        replace hr42 : ur42 = () := hr42
        replace hP : va_P (dC, dI) vwCl (wX a cI cZ cJ pn px py ln lf lt lr sn sf st sr (ec_flipth f i j kc kd) hn qx qy mn mc mk mo mr ++ rest) H := hP
        replace hD : va_D A (wX a cI cZ cJ pn px py ln lf lt lr sn sf st sr (ec_flipth f i j kc kd) hn qx qy mn mc mk mo mr ++ rest) := ec_Dk hD rfl
        refine lv_iconst (v := nI 1) hx hb d_F_flipBadSides_45 (by decide) ?_
        refine lv_istore_n hx hb d_F_flipBadSides_46 rfl hl (by decide) rfl (fun ls hl => ?_)
        replace hl : lv_has ls 4 [(1, .int (nI 1)), (0, .ref (a 1)), (2, .int (nI i)), (3, .int (nI j))] := hl
        refine ec_iinc (k := 3) hx hb d_F_flipBadSides_47 hl rfl (by decide) rfl (fun ls hl => ?_)
        replace hl : lv_has ls 4 [(3, .int (nI (j + 1))), (1, .int (nI 1)), (0, .ref (a 1)), (2, .int (nI i))] := hl
        refine lv_goto (tgt := 19) hx hb d_F_flipBadSides_50 rfl ?_
        exact ih19 _ (by omega) (j := j + 1) (fc := 1) (f := ec_flipth f i j kc kd) (ls := ls) (H := H) (locs := locs) (hS := hS) (hl := lv_sub hl [2, 1, 3, 0] rfl) (hP := hP) (hD := hD) (hle2 := (by omega)) (hij := (by omega)) (hJ2 := (ec_FB.flip gS hJ2 (by omega) (by omega) hqc hqd hnl hbd)) (hk19 := rfl)

set_option maxRecDepth 100000 in
set_option maxHeartbeats 4000000 in
theorem c_F_makeSidesGood (l : Launch) (dC : Nat → ClassId) (dI : Nat → Nat → Nat) (a : Nat → Nat) (cI cZ cJ : ClassId) (pn : Nat) (px : Nat → Int32) (py : Nat → Int32) (ln : Nat) (lf : Nat → Nat) (lt : Nat → Nat) (lr : Nat → Nat) (sn : Nat) (sf : Nat → Nat) (st : Nat → Nat) (sr : Nat → Nat) (th : Nat → Option Nat) (hn : Nat) (qx : Nat → Int32) (qy : Nat → Int32) (mn : Nat) (mc : Nat → Nat) (mk : Nat → Prop) (mo : Nat → Option Nat) (mr : Nat → Nat) (rest : va_W) (gS : ec_SI pn px py ln lf lt lr) (hG : ec_GM pn px py ln lf lt th) (A : Nat → Prop) (hD : va_D A (wX a cI cZ cJ pn px py ln lf lt lr sn sf st sr th hn qx qy mn mc mk mo mr ++ rest)) : Met l y_F_makeSidesGood (Cond.code y_F_makeSidesGood b_F_makeSidesGood 3 none :: ec_tbl) ({ frames := 5, cells := 0, slots := 0, locals := 132 }) (va_Pc [.ref (a 1)] (fun U => va_P (dC, dI) vwCl (wX a cI cZ cJ pn px py ln lf lt lr sn sf st sr th hn qx qy mn mc mk mo mr ++ rest) U.heap ∧ va_K (dC, dI) vwCl (ec_tys cI cZ cJ) U)) (va_Qv (fun (u : Nat → Option Nat) => ec_FM pn px py ln lf lt u) (fun u t => va_P (dC, dI) vwCl (wX a cI cZ cJ pn px py ln lf lt lr sn sf st sr u hn qx qy mn mc mk mo mr ++ rest) t.heap) A) 0 0 A := by
  refine Met.ofW (cc := b_F_makeSidesGood) (maxL := 3) (ret := none) (by decide) rfl ?_
  intro p e s m args below meth c s₁ B hml hv0
  obtain ⟨rfl, hP, hK⟩ := hv0
  have hx := B.exec
  have hb := B.bytes
  have hr := B.returns
  have hts := atoms_spec (ws := (Cond.code y_F_makeSidesGood b_F_makeSidesGood 3 none :: ec_tbl)) B.pre
  have htb : ∀ w ∈ ec_tbl, w.before _ s = true := fun w h => hts w (List.mem_cons_of_mem _ h)
  clear hts
  have hown : s.vm.findClass "ExactMesh$FullMesh" = some m.cls := findClass_of_methodNamed B.named
  have hlocks := B.notSynchronized
  have hl := lv_entry ([.ref (a 1)]) (n := 3) (Nat.le_of_ble_eq_true rfl)
  rw [lg_entry_eq]
  generalize (lg_sl ([.ref (a 1)]) ++ List.replicate (3 - (lg_sl ([.ref (a 1)])).length) Slot.unset).toArray = ls at hl ⊢
  replace hl : lv_has ls 3 [(0, .ref (a 1))] := hl
  refine ec_start (fun H locs hH hlocs => ?_)
  replace hP : va_P (dC, dI) vwCl (wX a cI cZ cJ pn px py ln lf lt lr sn sf st sr th hn qx qy mn mc mk mo mr ++ rest) H := by rw [hH]; exact hP
  have hS : va_S A s.heap H locs := by rw [hH, hlocs]; exact va_S.rf
  clear hH hlocs
  have g12 := gS.1
  have gN := gS.2.1
  have gln := gS.2.2.2.1
  refine lv_iconst (v := nI 1) hx hb d_F_makeSidesGood_0 (by decide) ?_
  refine lv_istore_n hx hb d_F_makeSidesGood_1 rfl hl (by decide) rfl (fun ls hl => ?_)
  replace hl : lv_has ls 3 [(1, .int (nI 1)), (0, .ref (a 1))] := hl
  refine lv_iconst (v := nI 0) hx hb d_F_makeSidesGood_2 (by decide) ?_
  refine lv_istore_n hx hb d_F_makeSidesGood_3 rfl hl (by decide) rfl (fun ls hl => ?_)
  replace hl : lv_has ls 3 [(2, .int (nI 0)), (1, .int (nI 1)), (0, .ref (a 1))] := hl
  obtain ⟨fb, e_fb⟩ : ∃ z : Nat, z = 1 := ⟨_, rfl⟩
  obtain ⟨ro, e_ro⟩ : ∃ z : Nat, z = 0 := ⟨_, rfl⟩
  obtain ⟨g, e_g⟩ : ∃ z : Nat → Option Nat, z = th := ⟨_, rfl⟩
  replace hl : lv_has ls 3 [(0, .ref (a 1)), (1, .int (nI fb)), (2, .int (nI ro))] := by (try simp only [e_fb, e_ro, e_g]); exact lv_sub hl [2, 1, 0] rfl
  replace hP : va_P (dC, dI) vwCl (wX a cI cZ cJ pn px py ln lf lt lr sn sf st sr g hn qx qy mn mc mk mo mr ++ rest) H := by (try simp only [e_fb, e_ro, e_g]); exact hP
  replace hD : va_D A (wX a cI cZ cJ pn px py ln lf lt lr sn sf st sr g hn qx qy mn mc mk mo mr ++ rest) := ec_Dk hD rfl
  have hro : ro ≤ 1000 := by omega
  have hfb : fb ≤ 1 := by omega
  have hJ : ec_FL pn px py ln lf lt lr g fb ro := by simp only [e_fb, e_ro, e_g]; exact ec_FL.start gS hG
  clear e_g e_ro e_fb
  generalize hk4 : 1000 - ro = k4
  induction k4 using Nat.strongRecOn generalizing fb ro g ls H locs with
  | ind k4 ih4 =>
  refine lv_iload_n hx hb d_F_makeSidesGood_4 rfl (lv_at hl 1 rfl) ?_
  refine ec_if_eq (tgt := 26) hx hb d_F_makeSidesGood_5 rfl (by omega) (fun h5 => ?_) (fun h5 => ?_)
  · exact W.vret hx hb hr (fun tS ht hW => ⟨⟨g, rfl, (ec_FL.fin gS hJ (Or.inl h5)), by show va_P _ _ _ tS.heap; rw [ht]; exact hP⟩, hS.F ht⟩) hS.2.2 d_F_makeSidesGood_26
  · refine lv_iload_n hx hb d_F_makeSidesGood_8 rfl (lv_at hl 2 rfl) ?_
    refine lv_sipush (v := nI 1000) hx hb d_F_makeSidesGood_9 (by decide) ?_
    refine ec_icmp_ge (tgt := 26) hx hb d_F_makeSidesGood_12 rfl (by omega) (by omega) (fun h12 => ?_) (fun h12 => ?_)
    · exact W.vret hx hb hr (fun tS ht hW => ⟨⟨g, rfl, (ec_FL.fin gS hJ (Or.inr h12)), by show va_P _ _ _ tS.heap; rw [ht]; exact hP⟩, hS.F ht⟩) hS.2.2 d_F_makeSidesGood_26
    · refine lv_aload_n hx hb d_F_makeSidesGood_15 rfl (lv_at hl 0 rfl) ?_
      refine ec_vQi (C := "ExactMesh$FullMesh") (ci := 2) (q := (R_F, T_F, 4)) (q0 := 1) (As := []) (rest := []) ⟨hx, hb, hml, hown, htb⟩ (c_F_flipBadSides l dC dI a cI cZ cJ pn px py ln lf lt lr sn sf st sr g hn qx qy mn mc mk mo mr rest gS hJ.1 A hD) kv_F_flipBadSides hK hP rfl rfl rfl hS wd_303 ⟨Nat.le_of_ble_eq_true rfl, Nat.le_of_ble_eq_true rfl⟩ ⟨rfl, rfl⟩ rfl hl.1 rfl (Nat.le_of_ble_eq_true rfl) d_F_makeSidesGood_16 ⟨Nat.zero_le _, Nat.zero_le _⟩ (fun r16 ur16 H locs hr16 hP hS => ?_)
      replace hr16 : r16 = nI ur16.1 ∧ ec_FR pn px py ln lf lt lr g ur16.2 ur16.1 := hr16
      replace hP : va_P (dC, dI) vwCl (wX a cI cZ cJ pn px py ln lf lt lr sn sf st sr ur16.2 hn qx qy mn mc mk mo mr ++ rest) H := hP
      replace hD : va_D A (wX a cI cZ cJ pn px py ln lf lt lr sn sf st sr ur16.2 hn qx qy mn mc mk mo mr ++ rest) := ec_Dk hD rfl
      obtain ⟨er16, hr16⟩ := hr16
      subst er16
      refine lv_istore_n hx hb d_F_makeSidesGood_19 rfl hl (by decide) rfl (fun ls hl => ?_)
      replace hl : lv_has ls 3 [(1, .int (nI ur16.1)), (0, .ref (a 1)), (2, .int (nI ro))] := hl
      refine ec_iinc (k := 2) hx hb d_F_makeSidesGood_20 hl rfl (by decide) rfl (fun ls hl => ?_)
      replace hl : lv_has ls 3 [(2, .int (nI (ro + 1))), (1, .int (nI ur16.1)), (0, .ref (a 1))] := hl
      refine lv_goto (tgt := 4) hx hb d_F_makeSidesGood_23 rfl ?_
      exact ih4 _ (by omega) (fb := ur16.1) (ro := ro + 1) (g := ur16.2) (ls := ls) (H := H) (locs := locs) (hS := hS) (hl := lv_sub hl [2, 1, 0] rfl) (hP := hP) (hD := hD) (hro := (by omega)) (hfb := hr16.2.1) (hJ := (hJ.next h5 hr16)) (hk4 := rfl)
