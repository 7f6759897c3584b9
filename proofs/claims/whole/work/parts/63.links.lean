set_option maxRecDepth 100000 in
set_option maxHeartbeats 4000000 in
theorem c_fill_sr (l : Launch) (dC : Nat → ClassId) (dI : Nat → Nat → Nat) (a : Nat → Nat) (cI cZ cJ : ClassId) (pn : Nat) (px : Nat → Int32) (py : Nat → Int32) (ln : Nat) (lf : Nat → Nat) (lt : Nat → Nat) (lr : Nat → Nat) (sn : Nat) (sf : Nat → Nat) (st : Nat → Nat) (sr : Nat → Nat) (th : Nat → Option Nat) (hn : Nat) (qx : Nat → Int32) (qy : Nat → Int32) (mn : Nat) (mc : Nat → Nat) (mk : Nat → Prop) (mo : Nat → Option Nat) (mr : Nat → Nat) (rest : va_W) (vz : Nat) (A : Nat → Prop) (hD : va_D A (wX a cI cZ cJ pn px py ln lf lt lr sn sf st sr th hn qx qy mn mc mk mo mr ++ rest)) : Met l y_JA_fill (Cond.code y_JA_fill b_JA_fill 4 none :: ec_tbl) ({ frames := 0, cells := 0, slots := 0, locals := 0 }) (va_Pc [.ref (a 12), .int (nI vz)] (fun U => va_P (dC, dI) vwCl (wX a cI cZ cJ pn px py ln lf lt lr sn sf st sr th hn qx qy mn mc mk mo mr ++ rest) U.heap ∧ va_K (dC, dI) vwCl (ec_tys cI cZ cJ) U)) (va_Qv (fun (u : Nat → Nat) => ∀ j, j < 12 → u j = vz) (fun u t => va_P (dC, dI) vwCl (wX a cI cZ cJ pn px py ln lf lt lr sn sf st u th hn qx qy mn mc mk mo mr ++ rest) t.heap) A) 0 0 A := by
  refine Met.ofW (cc := b_JA_fill) (maxL := 4) (ret := none) (by decide) rfl ?_
  intro p e s m args below meth c s₁ B hml hv0
  obtain ⟨rfl, hP, hK⟩ := hv0
  have hx := B.exec
  have hb := B.bytes
  have hr := B.returns
  have hts := atoms_spec (ws := (Cond.code y_JA_fill b_JA_fill 4 none :: ec_tbl)) B.pre
  have htb : ∀ w ∈ ec_tbl, w.before _ s = true := fun w h => hts w (List.mem_cons_of_mem _ h)
  clear hts
  have hown : s.vm.findClass "java/util/Arrays" = some m.cls := findClass_of_methodNamed B.named
  have hlocks := B.notSynchronized
  have hl := lv_entry ([.ref (a 12), .int (nI vz)]) (n := 4) (Nat.le_of_ble_eq_true rfl)
  rw [lg_entry_eq]
  generalize (lg_sl ([.ref (a 12), .int (nI vz)]) ++ List.replicate (4 - (lg_sl ([.ref (a 12), .int (nI vz)])).length) Slot.unset).toArray = ls at hl ⊢
  replace hl : lv_has ls 4 [(0, .ref (a 12)), (1, .int (nI vz))] := hl
  refine ec_start (fun H locs hH hlocs => ?_)
  replace hP : va_P (dC, dI) vwCl (wX a cI cZ cJ pn px py ln lf lt lr sn sf st sr th hn qx qy mn mc mk mo mr ++ rest) H := by rw [hH]; exact hP
  have hS : va_S A s.heap H locs := by rw [hH, hlocs]; exact va_S.rf
  clear hH hlocs
  refine lv_iconst (v := nI 0) hx hb d_JA_fill_0 (by decide) ?_
  refine lv_istore_n hx hb d_JA_fill_1 rfl hl (by decide) rfl (fun ls hl => ?_)
  replace hl : lv_has ls 4 [(2, .int (nI 0)), (0, .ref (a 12)), (1, .int (nI vz))] := hl
  refine lv_aload_n hx hb d_JA_fill_2 rfl (lv_at hl 1 rfl) ?_
  refine va_alen (v := nI 12) hx hb hK hP 12 0 rfl rfl rfl d_JA_fill_3 ?_
  refine lv_istore_n hx hb d_JA_fill_4 rfl hl (by decide) rfl (fun ls hl => ?_)
  replace hl : lv_has ls 4 [(3, .int (nI 12)), (2, .int (nI 0)), (0, .ref (a 12)), (1, .int (nI vz))] := hl
  obtain ⟨i, e_i⟩ : ∃ z : Nat, z = 0 := ⟨_, rfl⟩
  obtain ⟨g, e_g⟩ : ∃ z : Nat → Nat, z = sr := ⟨_, rfl⟩
  replace hl : lv_has ls 4 [(0, .ref (a 12)), (1, .int (nI vz)), (3, .int (nI 12)), (2, .int (nI i))] := by (try simp only [e_i, e_g]); exact lv_sub hl [2, 3, 0, 1] rfl
  replace hP : va_P (dC, dI) vwCl (wX a cI cZ cJ pn px py ln lf lt lr sn sf st g th hn qx qy mn mc mk mo mr ++ rest) H := by (try simp only [e_i, e_g]); exact hP
  replace hD : va_D A (wX a cI cZ cJ pn px py ln lf lt lr sn sf st g th hn qx qy mn mc mk mo mr ++ rest) := ec_Dk hD rfl
  have hle : i ≤ 12 := by omega
  have hI : ∀ j, j < i → g j = vz := by exact fun j hj => by omega
  clear e_g e_i
  generalize hk5 : 12 - i = k5
  induction k5 using Nat.strongRecOn generalizing i g ls H locs with
  | ind k5 ih5 =>
  refine lv_iload_n hx hb d_JA_fill_5 rfl (lv_at hl 3 rfl) ?_
  refine lv_iload_n hx hb d_JA_fill_6 rfl (lv_at hl 2 rfl) ?_
  refine ec_icmp_ge (tgt := 20) hx hb d_JA_fill_7 rfl (by omega) (by omega) (fun h7 => ?_) (fun h7 => ?_)
  · exact W.vret hx hb hr (fun tS ht hW => ⟨⟨g, rfl, (fun j hj => hI j (by omega)), by show va_P _ _ _ tS.heap; rw [ht]; exact hP⟩, hS.F ht⟩) hS.2.2 d_JA_fill_20
  · refine lv_aload_n hx hb d_JA_fill_10 rfl (lv_at hl 0 rfl) ?_
    refine lv_iload_n hx hb d_JA_fill_11 rfl (lv_at hl 3 rfl) ?_
    refine lv_iload_n hx hb d_JA_fill_12 rfl (lv_at hl 1 rfl) ?_
    refine ec_iastN (f := g) (i := i) (x := vz) hx hb hK hP hD hS 12 0 rfl rfl rfl (by omega) (by decide) d_JA_fill_13 (fun H locs hP hD hS => ?_)
    replace hP : va_P (dC, dI) vwCl (wX a cI cZ cJ pn px py ln lf lt lr sn sf st (va_up g i vz) th hn qx qy mn mc mk mo mr ++ rest) H := hP
    replace hD : va_D A (wX a cI cZ cJ pn px py ln lf lt lr sn sf st (va_up g i vz) th hn qx qy mn mc mk mo mr ++ rest) := hD
    refine ec_iinc (k := 3) hx hb d_JA_fill_14 hl rfl (by decide) rfl (fun ls hl => ?_)
    replace hl : lv_has ls 4 [(2, .int (nI (i + 1))), (0, .ref (a 12)), (1, .int (nI vz)), (3, .int (nI 12))] := hl
    refine lv_goto (tgt := 5) hx hb d_JA_fill_17 rfl ?_
    exact ih5 _ (by omega) (i := i + 1) (g := va_up g i vz) (ls := ls) (H := H) (locs := locs) (hS := hS) (hl := lv_sub hl [1, 2, 3, 0] rfl) (hP := hP) (hD := hD) (hle := (by omega)) (hI := (ec_fill_step hI)) (hk5 := rfl)

set_option maxRecDepth 100000 in
set_option maxHeartbeats 4000000 in
theorem c_fill_th (l : Launch) (dC : Nat → ClassId) (dI : Nat → Nat → Nat) (a : Nat → Nat) (cI cZ cJ : ClassId) (pn : Nat) (px : Nat → Int32) (py : Nat → Int32) (ln : Nat) (lf : Nat → Nat) (lt : Nat → Nat) (lr : Nat → Nat) (sn : Nat) (sf : Nat → Nat) (st : Nat → Nat) (sr : Nat → Nat) (th : Nat → Option Nat) (hn : Nat) (qx : Nat → Int32) (qy : Nat → Int32) (mn : Nat) (mc : Nat → Nat) (mk : Nat → Prop) (mo : Nat → Option Nat) (mr : Nat → Nat) (rest : va_W) (A : Nat → Prop) (hD : va_D A (wX a cI cZ cJ pn px py ln lf lt lr sn sf st sr th hn qx qy mn mc mk mo mr ++ rest)) : Met l y_JA_fill (Cond.code y_JA_fill b_JA_fill 4 none :: ec_tbl) ({ frames := 0, cells := 0, slots := 0, locals := 0 }) (va_Pc [.ref (a 13), .int (-1)] (fun U => va_P (dC, dI) vwCl (wX a cI cZ cJ pn px py ln lf lt lr sn sf st sr th hn qx qy mn mc mk mo mr ++ rest) U.heap ∧ va_K (dC, dI) vwCl (ec_tys cI cZ cJ) U)) (va_Qv (fun (u : Nat → Option Nat) => ∀ j, j < 144 → u j = none) (fun u t => va_P (dC, dI) vwCl (wX a cI cZ cJ pn px py ln lf lt lr sn sf st sr u hn qx qy mn mc mk mo mr ++ rest) t.heap) A) 0 0 A := by
  refine Met.ofW (cc := b_JA_fill) (maxL := 4) (ret := none) (by decide) rfl ?_
  intro p e s m args below meth c s₁ B hml hv0
  obtain ⟨rfl, hP, hK⟩ := hv0
  have hx := B.exec
  have hb := B.bytes
  have hr := B.returns
  have hts := atoms_spec (ws := (Cond.code y_JA_fill b_JA_fill 4 none :: ec_tbl)) B.pre
  have htb : ∀ w ∈ ec_tbl, w.before _ s = true := fun w h => hts w (List.mem_cons_of_mem _ h)
  clear hts
  have hown : s.vm.findClass "java/util/Arrays" = some m.cls := findClass_of_methodNamed B.named
  have hlocks := B.notSynchronized
  have hl := lv_entry ([.ref (a 13), .int (-1)]) (n := 4) (Nat.le_of_ble_eq_true rfl)
  rw [lg_entry_eq]
  generalize (lg_sl ([.ref (a 13), .int (-1)]) ++ List.replicate (4 - (lg_sl ([.ref (a 13), .int (-1)])).length) Slot.unset).toArray = ls at hl ⊢
  replace hl : lv_has ls 4 [(0, .ref (a 13)), (1, .int (-1))] := hl
  refine ec_start (fun H locs hH hlocs => ?_)
  replace hP : va_P (dC, dI) vwCl (wX a cI cZ cJ pn px py ln lf lt lr sn sf st sr th hn qx qy mn mc mk mo mr ++ rest) H := by rw [hH]; exact hP
  have hS : va_S A s.heap H locs := by rw [hH, hlocs]; exact va_S.rf
  clear hH hlocs
  refine lv_iconst (v := nI 0) hx hb d_JA_fill_0 (by decide) ?_
  refine lv_istore_n hx hb d_JA_fill_1 rfl hl (by decide) rfl (fun ls hl => ?_)
  replace hl : lv_has ls 4 [(2, .int (nI 0)), (0, .ref (a 13)), (1, .int (-1))] := hl
  refine lv_aload_n hx hb d_JA_fill_2 rfl (lv_at hl 1 rfl) ?_
  refine va_alen (v := nI 144) hx hb hK hP 13 0 rfl rfl rfl d_JA_fill_3 ?_
  refine lv_istore_n hx hb d_JA_fill_4 rfl hl (by decide) rfl (fun ls hl => ?_)
  replace hl : lv_has ls 4 [(3, .int (nI 144)), (2, .int (nI 0)), (0, .ref (a 13)), (1, .int (-1))] := hl
  obtain ⟨i, e_i⟩ : ∃ z : Nat, z = 0 := ⟨_, rfl⟩
  obtain ⟨g, e_g⟩ : ∃ z : Nat → Option Nat, z = th := ⟨_, rfl⟩
  replace hl : lv_has ls 4 [(0, .ref (a 13)), (1, .int (-1)), (3, .int (nI 144)), (2, .int (nI i))] := by (try simp only [e_i, e_g]); exact lv_sub hl [2, 3, 0, 1] rfl
  replace hP : va_P (dC, dI) vwCl (wX a cI cZ cJ pn px py ln lf lt lr sn sf st sr g hn qx qy mn mc mk mo mr ++ rest) H := by (try simp only [e_i, e_g]); exact hP
  replace hD : va_D A (wX a cI cZ cJ pn px py ln lf lt lr sn sf st sr g hn qx qy mn mc mk mo mr ++ rest) := ec_Dk hD rfl
  have hle : i ≤ 144 := by omega
  have hI : ∀ j, j < i → g j = none := by exact fun j hj => by omega
  clear e_g e_i
  generalize hk5 : 144 - i = k5
  induction k5 using Nat.strongRecOn generalizing i g ls H locs with
  | ind k5 ih5 =>
  refine lv_iload_n hx hb d_JA_fill_5 rfl (lv_at hl 3 rfl) ?_
  refine lv_iload_n hx hb d_JA_fill_6 rfl (lv_at hl 2 rfl) ?_
  refine ec_icmp_ge (tgt := 20) hx hb d_JA_fill_7 rfl (by omega) (by omega) (fun h7 => ?_) (fun h7 => ?_)
  · exact W.vret hx hb hr (fun tS ht hW => ⟨⟨g, rfl, (fun j hj => hI j (by omega)), by show va_P _ _ _ tS.heap; rw [ht]; exact hP⟩, hS.F ht⟩) hS.2.2 d_JA_fill_20
  · refine lv_aload_n hx hb d_JA_fill_10 rfl (lv_at hl 0 rfl) ?_
    refine lv_iload_n hx hb d_JA_fill_11 rfl (lv_at hl 3 rfl) ?_
    refine lv_iload_n hx hb d_JA_fill_12 rfl (lv_at hl 1 rfl) ?_
    refine ec_iastO (f := g) (i := i) (x := none) hx hb hK hP hD hS 13 0 rfl rfl rfl (by omega) (by decide) d_JA_fill_13 (fun H locs hP hD hS => ?_)
    replace hP : va_P (dC, dI) vwCl (wX a cI cZ cJ pn px py ln lf lt lr sn sf st sr (va_up g i none) hn qx qy mn mc mk mo mr ++ rest) H := hP
    replace hD : va_D A (wX a cI cZ cJ pn px py ln lf lt lr sn sf st sr (va_up g i none) hn qx qy mn mc mk mo mr ++ rest) := hD
    refine ec_iinc (k := 3) hx hb d_JA_fill_14 hl rfl (by decide) rfl (fun ls hl => ?_)
    replace hl : lv_has ls 4 [(2, .int (nI (i + 1))), (0, .ref (a 13)), (1, .int (-1)), (3, .int (nI 144))] := hl
    refine lv_goto (tgt := 5) hx hb d_JA_fill_17 rfl ?_
    exact ih5 _ (by omega) (i := i + 1) (g := va_up g i none) (ls := ls) (H := H) (locs := locs) (hS := hS) (hl := lv_sub hl [1, 2, 3, 0] rfl) (hP := hP) (hD := hD) (hle := (by omega)) (hI := (ec_fill_step hI)) (hk5 := rfl)

set_option maxRecDepth 100000 in
set_option maxHeartbeats 4000000 in
theorem c_fill_mo (l : Launch) (dC : Nat → ClassId) (dI : Nat → Nat → Nat) (a : Nat → Nat) (cI cZ cJ : ClassId) (pn : Nat) (px : Nat → Int32) (py : Nat → Int32) (ln : Nat) (lf : Nat → Nat) (lt : Nat → Nat) (lr : Nat → Nat) (sn : Nat) (sf : Nat → Nat) (st : Nat → Nat) (sr : Nat → Nat) (th : Nat → Option Nat) (hn : Nat) (qx : Nat → Int32) (qy : Nat → Int32) (mn : Nat) (mc : Nat → Nat) (mk : Nat → Prop) (mo : Nat → Option Nat) (mr : Nat → Nat) (rest : va_W) (A : Nat → Prop) (hD : va_D A (wX a cI cZ cJ pn px py ln lf lt lr sn sf st sr th hn qx qy mn mc mk mo mr ++ rest)) : Met l y_JA_fill (Cond.code y_JA_fill b_JA_fill 4 none :: ec_tbl) ({ frames := 0, cells := 0, slots := 0, locals := 0 }) (va_Pc [.ref (a 20), .int (-1)] (fun U => va_P (dC, dI) vwCl (wX a cI cZ cJ pn px py ln lf lt lr sn sf st sr th hn qx qy mn mc mk mo mr ++ rest) U.heap ∧ va_K (dC, dI) vwCl (ec_tys cI cZ cJ) U)) (va_Qv (fun (u : Nat → Option Nat) => ∀ j, j < 144 → u j = none) (fun u t => va_P (dC, dI) vwCl (wX a cI cZ cJ pn px py ln lf lt lr sn sf st sr th hn qx qy mn mc mk u mr ++ rest) t.heap) A) 0 0 A := by
  refine Met.ofW (cc := b_JA_fill) (maxL := 4) (ret := none) (by decide) rfl ?_
  intro p e s m args below meth c s₁ B hml hv0
  obtain ⟨rfl, hP, hK⟩ := hv0
  have hx := B.exec
  have hb := B.bytes
  have hr := B.returns
  have hts := atoms_spec (ws := (Cond.code y_JA_fill b_JA_fill 4 none :: ec_tbl)) B.pre
  have htb : ∀ w ∈ ec_tbl, w.before _ s = true := fun w h => hts w (List.mem_cons_of_mem _ h)
  clear hts
  have hown : s.vm.findClass "java/util/Arrays" = some m.cls := findClass_of_methodNamed B.named
  have hlocks := B.notSynchronized
  have hl := lv_entry ([.ref (a 20), .int (-1)]) (n := 4) (Nat.le_of_ble_eq_true rfl)
  rw [lg_entry_eq]
  generalize (lg_sl ([.ref (a 20), .int (-1)]) ++ List.replicate (4 - (lg_sl ([.ref (a 20), .int (-1)])).length) Slot.unset).toArray = ls at hl ⊢
  replace hl : lv_has ls 4 [(0, .ref (a 20)), (1, .int (-1))] := hl
  refine ec_start (fun H locs hH hlocs => ?_)
  replace hP : va_P (dC, dI) vwCl (wX a cI cZ cJ pn px py ln lf lt lr sn sf st sr th hn qx qy mn mc mk mo mr ++ rest) H := by rw [hH]; exact hP
  have hS : va_S A s.heap H locs := by rw [hH, hlocs]; exact va_S.rf
  clear hH hlocs
  refine lv_iconst (v := nI 0) hx hb d_JA_fill_0 (by decide) ?_
  refine lv_istore_n hx hb d_JA_fill_1 rfl hl (by decide) rfl (fun ls hl => ?_)
  replace hl : lv_has ls 4 [(2, .int (nI 0)), (0, .ref (a 20)), (1, .int (-1))] := hl
  refine lv_aload_n hx hb d_JA_fill_2 rfl (lv_at hl 1 rfl) ?_
  refine va_alen (v := nI 144) hx hb hK hP 20 0 rfl rfl rfl d_JA_fill_3 ?_
  refine lv_istore_n hx hb d_JA_fill_4 rfl hl (by decide) rfl (fun ls hl => ?_)
  replace hl : lv_has ls 4 [(3, .int (nI 144)), (2, .int (nI 0)), (0, .ref (a 20)), (1, .int (-1))] := hl
  obtain ⟨i, e_i⟩ : ∃ z : Nat, z = 0 := ⟨_, rfl⟩
  obtain ⟨g, e_g⟩ : ∃ z : Nat → Option Nat, z = mo := ⟨_, rfl⟩
  replace hl : lv_has ls 4 [(0, .ref (a 20)), (1, .int (-1)), (3, .int (nI 144)), (2, .int (nI i))] := by (try simp only [e_i, e_g]); exact lv_sub hl [2, 3, 0, 1] rfl
  replace hP : va_P (dC, dI) vwCl (wX a cI cZ cJ pn px py ln lf lt lr sn sf st sr th hn qx qy mn mc mk g mr ++ rest) H := by (try simp only [e_i, e_g]); exact hP
  replace hD : va_D A (wX a cI cZ cJ pn px py ln lf lt lr sn sf st sr th hn qx qy mn mc mk g mr ++ rest) := ec_Dk hD rfl
  have hle : i ≤ 144 := by omega
  have hI : ∀ j, j < i → g j = none := by exact fun j hj => by omega
  clear e_g e_i
  generalize hk5 : 144 - i = k5
  induction k5 using Nat.strongRecOn generalizing i g ls H locs with
  | ind k5 ih5 =>
  refine lv_iload_n hx hb d_JA_fill_5 rfl (lv_at hl 3 rfl) ?_
  refine lv_iload_n hx hb d_JA_fill_6 rfl (lv_at hl 2 rfl) ?_
  refine ec_icmp_ge (tgt := 20) hx hb d_JA_fill_7 rfl (by omega) (by omega) (fun h7 => ?_) (fun h7 => ?_)
  · exact W.vret hx hb hr (fun tS ht hW => ⟨⟨g, rfl, (fun j hj => hI j (by omega)), by show va_P _ _ _ tS.heap; rw [ht]; exact hP⟩, hS.F ht⟩) hS.2.2 d_JA_fill_20
  · refine lv_aload_n hx hb d_JA_fill_10 rfl (lv_at hl 0 rfl) ?_
    refine lv_iload_n hx hb d_JA_fill_11 rfl (lv_at hl 3 rfl) ?_
    refine lv_iload_n hx hb d_JA_fill_12 rfl (lv_at hl 1 rfl) ?_
    refine ec_iastO (f := g) (i := i) (x := none) hx hb hK hP hD hS 20 0 rfl rfl rfl (by omega) (by decide) d_JA_fill_13 (fun H locs hP hD hS => ?_)
    replace hP : va_P (dC, dI) vwCl (wX a cI cZ cJ pn px py ln lf lt lr sn sf st sr th hn qx qy mn mc mk (va_up g i none) mr ++ rest) H := hP
    replace hD : va_D A (wX a cI cZ cJ pn px py ln lf lt lr sn sf st sr th hn qx qy mn mc mk (va_up g i none) mr ++ rest) := hD
    refine ec_iinc (k := 3) hx hb d_JA_fill_14 hl rfl (by decide) rfl (fun ls hl => ?_)
    replace hl : lv_has ls 4 [(2, .int (nI (i + 1))), (0, .ref (a 20)), (1, .int (-1)), (3, .int (nI 144))] := hl
    refine lv_goto (tgt := 5) hx hb d_JA_fill_17 rfl ?_
    exact ih5 _ (by omega) (i := i + 1) (g := va_up g i none) (ls := ls) (H := H) (locs := locs) (hS := hS) (hl := lv_sub hl [1, 2, 3, 0] rfl) (hP := hP) (hD := hD) (hle := (by omega)) (hI := (ec_fill_step hI)) (hk5 := rfl)

set_option maxRecDepth 100000 in
set_option maxHeartbeats 4000000 in
theorem c_L_isFull (l : Launch) (dC : Nat → ClassId) (dI : Nat → Nat → Nat) (a : Nat → Nat) (cI cZ cJ : ClassId) (pn : Nat) (px : Nat → Int32) (py : Nat → Int32) (ln : Nat) (lf : Nat → Nat) (lt : Nat → Nat) (lr : Nat → Nat) (sn : Nat) (sf : Nat → Nat) (st : Nat → Nat) (sr : Nat → Nat) (th : Nat → Option Nat) (hn : Nat) (qx : Nat → Int32) (qy : Nat → Int32) (mn : Nat) (mc : Nat → Nat) (mk : Nat → Prop) (mo : Nat → Option Nat) (mr : Nat → Nat) (rest : va_W) (gln : ln ≤ 10) : Met l y_L_isFull (Cond.code y_L_isFull b_L_isFull 1 (some .boolean) :: ec_tbl) ({ frames := 0, cells := 0, slots := 0, locals := 0 }) (va_Pc [.ref (a 5)] (fun U => va_P (dC, dI) vwCl (wX a cI cZ cJ pn px py ln lf lt lr sn sf st sr th hn qx qy mn mc mk mo mr ++ rest) U.heap ∧ va_K (dC, dI) vwCl (ec_tys cI cZ cJ) U)) (vp_Si (fun r : Int32 => ec_isB r (10 ≤ ln))) 0 0 (fun _ => False) := by
  refine Met.ofW (cc := b_L_isFull) (maxL := 1) (ret := (some .boolean)) (by decide) rfl ?_
  intro p e s m args below meth c s₁ B hml hv0
  obtain ⟨rfl, hP, hK⟩ := hv0
  have hx := B.exec
  have hb := B.bytes
  have hr := B.returns
  have hts := atoms_spec (ws := (Cond.code y_L_isFull b_L_isFull 1 (some .boolean) :: ec_tbl)) B.pre
  have htb : ∀ w ∈ ec_tbl, w.before _ s = true := fun w h => hts w (List.mem_cons_of_mem _ h)
  clear hts
  have hown : s.vm.findClass "ExactMesh$Links" = some m.cls := findClass_of_methodNamed B.named
  have hlocks := B.notSynchronized
  have hl := lv_entry ([.ref (a 5)]) (n := 1) (Nat.le_of_ble_eq_true rfl)
  rw [lg_entry_eq]
  generalize (lg_sl ([.ref (a 5)]) ++ List.replicate (1 - (lg_sl ([.ref (a 5)])).length) Slot.unset).toArray = ls at hl ⊢
  replace hl : lv_has ls 1 [(0, .ref (a 5))] := hl
  refine lv_aload_n hx hb d_L_isFull_0 rfl (lv_at hl 0 rfl) ?_
  refine va_get (D := (dC, dI)) (ci := 1) (v := .int (nI ln)) (C := R_L) (T := T_L) (N := 4) hx hb htb in_L hown hK hP 5 rfl rfl 3 (by decide) (htb _ wd_59) (fun _ h9 => h9) rfl d_L_isFull_1 ?_
  refine lv_aload_n hx hb d_L_isFull_4 rfl (lv_at hl 0 rfl) ?_
  refine va_get (D := (dC, dI)) (ci := 1) (v := .ref (a 6)) (C := R_L) (T := T_L) (N := 4) hx hb htb in_L hown hK hP 5 rfl rfl 0 (by decide) (htb _ wd_55) (fun _ h9 => h9) rfl d_L_isFull_5 ?_
  refine va_alen (v := nI 10) hx hb hK hP 6 0 rfl rfl rfl d_L_isFull_8 ?_
  refine ec_icmp_lt (tgt := 16) hx hb d_L_isFull_9 rfl (by omega) (by omega) (fun h9 => ?_) (fun h9 => ?_)
  · refine lv_iconst (v := nI 0) hx hb d_L_isFull_16 (by decide) ?_
    exact W.zret hx hb hr rfl (fun tS ht hW => ⟨_, rfl, (ec_isB.f0 (by omega)), ht⟩) (fun _ h => nomatch h) d_L_isFull_17
  · refine lv_iconst (v := nI 1) hx hb d_L_isFull_12 (by decide) ?_
    refine lv_goto (tgt := 17) hx hb d_L_isFull_13 rfl ?_
    exact W.zret hx hb hr rfl (fun tS ht hW => ⟨_, rfl, (ec_isB.t1 (by omega)), ht⟩) (fun _ h => nomatch h) d_L_isFull_17

set_option maxRecDepth 100000 in
set_option maxHeartbeats 4000000 in
theorem c_L_join (l : Launch) (dC : Nat → ClassId) (dI : Nat → Nat → Nat) (a : Nat → Nat) (cI cZ cJ : ClassId) (pn : Nat) (px : Nat → Int32) (py : Nat → Int32) (ln : Nat) (lf : Nat → Nat) (lt : Nat → Nat) (lr : Nat → Nat) (sn : Nat) (sf : Nat → Nat) (st : Nat → Nat) (sr : Nat → Nat) (th : Nat → Option Nat) (hn : Nat) (qx : Nat → Int32) (qy : Nat → Int32) (mn : Nat) (mc : Nat → Nat) (mk : Nat → Prop) (mo : Nat → Option Nat) (mr : Nat → Nat) (rest : va_W) (i : Nat) (j : Nat) (hi : i < 12) (hj : j < 12) (grln : ∀ a, a < 12 → lr a < 4096) : Met l y_L_join (Cond.code y_L_join b_L_join 3 (some .boolean) :: ec_tbl) ({ frames := 0, cells := 0, slots := 0, locals := 0 }) (va_Pc [.ref (a 5), .int (nI i), .int (nI j)] (fun U => va_P (dC, dI) vwCl (wX a cI cZ cJ pn px py ln lf lt lr sn sf st sr th hn qx qy mn mc mk mo mr ++ rest) U.heap ∧ va_K (dC, dI) vwCl (ec_tys cI cZ cJ) U)) (vp_Si (fun r : Int32 => ec_isB r ((lr i).testBit j = true))) 0 0 (fun _ => False) := by
  refine Met.ofW (cc := b_L_join) (maxL := 3) (ret := (some .boolean)) (by decide) rfl ?_
  intro p e s m args below meth c s₁ B hml hv0
  obtain ⟨rfl, hP, hK⟩ := hv0
  have hx := B.exec
  have hb := B.bytes
  have hr := B.returns
  have hts := atoms_spec (ws := (Cond.code y_L_join b_L_join 3 (some .boolean) :: ec_tbl)) B.pre
  have htb : ∀ w ∈ ec_tbl, w.before _ s = true := fun w h => hts w (List.mem_cons_of_mem _ h)
  clear hts
  have hown : s.vm.findClass "ExactMesh$Links" = some m.cls := findClass_of_methodNamed B.named
  have hlocks := B.notSynchronized
  have hl := lv_entry ([.ref (a 5), .int (nI i), .int (nI j)]) (n := 3) (Nat.le_of_ble_eq_true rfl)
  rw [lg_entry_eq]
  generalize (lg_sl ([.ref (a 5), .int (nI i), .int (nI j)]) ++ List.replicate (3 - (lg_sl ([.ref (a 5), .int (nI i), .int (nI j)])).length) Slot.unset).toArray = ls at hl ⊢
  replace hl : lv_has ls 3 [(0, .ref (a 5)), (1, .int (nI i)), (2, .int (nI j))] := hl
  refine lv_aload_n hx hb d_L_join_0 rfl (lv_at hl 0 rfl) ?_
  refine va_get (D := (dC, dI)) (ci := 1) (v := .ref (a 8)) (C := R_L) (T := T_L) (N := 4) hx hb htb in_L hown hK hP 5 rfl rfl 2 (by decide) (htb _ wd_57) (fun _ h9 => h9) rfl d_L_join_1 ?_
  refine lv_iload_n hx hb d_L_join_4 rfl (lv_at hl 1 rfl) ?_
  refine ec_ialdN (f := lr) (i := i) hx hb hK hP 8 0 rfl rfl (by omega) (by decide) d_L_join_5 ?_
  refine lv_iload_n hx hb d_L_join_6 rfl (lv_at hl 2 rfl) ?_
  refine lv_ishr hx hb d_L_join_7 ?_
  refine lv_iconst (v := nI 1) hx hb d_L_join_8 (by decide) ?_
  refine lv_iand hx hb d_L_join_9 ?_
  refine lv_if_eq (tgt := 17) hx hb d_L_join_10 rfl (fun h10 => ?_) (fun h10 => ?_)
  · refine lv_iconst (v := nI 0) hx hb d_L_join_17 (by decide) ?_
    exact W.zret hx hb hr rfl (fun tS ht hW => ⟨_, rfl, (ec_isB.f0 (ec_join0 (grln i hi) hj h10)), ht⟩) (fun _ h => nomatch h) d_L_join_18
  · refine lv_iconst (v := nI 1) hx hb d_L_join_13 (by decide) ?_
    refine lv_goto (tgt := 18) hx hb d_L_join_14 rfl ?_
    exact W.zret hx hb hr rfl (fun tS ht hW => ⟨_, rfl, (ec_isB.t1 (ec_join1 (grln i hi) hj h10)), ht⟩) (fun _ h => nomatch h) d_L_join_18

set_option maxRecDepth 100000 in
set_option maxHeartbeats 4000000 in
theorem c_L_add (l : Launch) (dC : Nat → ClassId) (dI : Nat → Nat → Nat) (a : Nat → Nat) (cI cZ cJ : ClassId) (pn : Nat) (px : Nat → Int32) (py : Nat → Int32) (ln : Nat) (lf : Nat → Nat) (lt : Nat → Nat) (lr : Nat → Nat) (sn : Nat) (sf : Nat → Nat) (st : Nat → Nat) (sr : Nat → Nat) (th : Nat → Option Nat) (hn : Nat) (qx : Nat → Int32) (qy : Nat → Int32) (mn : Nat) (mc : Nat → Nat) (mk : Nat → Prop) (mo : Nat → Option Nat) (mr : Nat → Nat) (rest : va_W) (i : Nat) (j : Nat) (gln : ln ≤ 10) (hroom : ln < 10) (hi : i < 12) (hj : j < 12) (A : Nat → Prop) (hD : va_D A (wX a cI cZ cJ pn px py ln lf lt lr sn sf st sr th hn qx qy mn mc mk mo mr ++ rest)) : Met l y_L_add (Cond.code y_L_add b_L_add 3 none :: ec_tbl) ({ frames := 1, cells := 0, slots := 0, locals := 20 }) (va_Pc [.ref (a 5), .int (nI i), .int (nI j)] (fun U => va_P (dC, dI) vwCl (wX a cI cZ cJ pn px py ln lf lt lr sn sf st sr th hn qx qy mn mc mk mo mr ++ rest) U.heap ∧ va_K (dC, dI) vwCl (ec_tys cI cZ cJ) U)) (va_Qv (fun (u : Unit) => u = ()) (fun u t => va_P (dC, dI) vwCl (wX a cI cZ cJ pn px py (ln + 1) (va_up lf ln i) (va_up lt ln j) (va_up (va_up lr i (lr i ||| 2 ^ j)) j ((va_up lr i (lr i ||| 2 ^ j)) j ||| 2 ^ i)) sn sf st sr th hn qx qy mn mc mk mo mr ++ rest) t.heap) A) 0 0 A := by
  refine Met.ofW (cc := b_L_add) (maxL := 3) (ret := none) (by decide) rfl ?_
  intro p e s m args below meth c s₁ B hml hv0
  obtain ⟨rfl, hP, hK⟩ := hv0
  have hx := B.exec
  have hb := B.bytes
  have hr := B.returns
  have hts := atoms_spec (ws := (Cond.code y_L_add b_L_add 3 none :: ec_tbl)) B.pre
  have htb : ∀ w ∈ ec_tbl, w.before _ s = true := fun w h => hts w (List.mem_cons_of_mem _ h)
  clear hts
  have hown : s.vm.findClass "ExactMesh$Links" = some m.cls := findClass_of_methodNamed B.named
  have hlocks := B.notSynchronized
  have hl := lv_entry ([.ref (a 5), .int (nI i), .int (nI j)]) (n := 3) (Nat.le_of_ble_eq_true rfl)
  rw [lg_entry_eq]
  generalize (lg_sl ([.ref (a 5), .int (nI i), .int (nI j)]) ++ List.replicate (3 - (lg_sl ([.ref (a 5), .int (nI i), .int (nI j)])).length) Slot.unset).toArray = ls at hl ⊢
  replace hl : lv_has ls 3 [(0, .ref (a 5)), (1, .int (nI i)), (2, .int (nI j))] := hl
  refine ec_start (fun H locs hH hlocs => ?_)
  replace hP : va_P (dC, dI) vwCl (wX a cI cZ cJ pn px py ln lf lt lr sn sf st sr th hn qx qy mn mc mk mo mr ++ rest) H := by rw [hH]; exact hP
  have hS : va_S A s.heap H locs := by rw [hH, hlocs]; exact va_S.rf
  clear hH hlocs
  refine lv_aload_n hx hb d_L_add_0 rfl (lv_at hl 0 rfl) ?_
  refine ec_vSi (C := "ExactMesh$Links") (ci := 1) (q := (R_L, T_L, 4)) (q0 := 5) (As := []) (rest := []) ⟨hx, hb, hml, hown, htb⟩ (c_L_isFull l dC dI a cI cZ cJ pn px py ln lf lt lr sn sf st sr th hn qx qy mn mc mk mo mr rest gln) kv_L_isFull hK hP rfl rfl rfl wd_209 ⟨Nat.le_of_ble_eq_true rfl, Nat.le_of_ble_eq_true rfl⟩ ⟨rfl, rfl⟩ rfl hl.1 rfl (Nat.le_of_ble_eq_true rfl) d_L_add_1 ⟨Nat.zero_le _, Nat.zero_le _⟩ (fun r1 hr1 => ?_)
  replace hr1 : ec_isB r1 (10 ≤ ln) := hr1
  refine ec_if_neB (tgt := 61) hx hb hr1 d_L_add_4 rfl (fun h4 => ?_) (fun h4 => ?_)
  · exact absurd h4 (by omega)
  · refine lv_aload_n hx hb d_L_add_7 rfl (lv_at hl 0 rfl) ?_
    refine va_get (D := (dC, dI)) (ci := 1) (v := .ref (a 6)) (C := R_L) (T := T_L) (N := 4) hx hb htb in_L hown hK hP 5 rfl rfl 0 (by decide) (htb _ wd_55) (fun _ h9 => h9) rfl d_L_add_8 ?_
    refine lv_aload_n hx hb d_L_add_11 rfl (lv_at hl 0 rfl) ?_
    refine va_get (D := (dC, dI)) (ci := 1) (v := .int (nI ln)) (C := R_L) (T := T_L) (N := 4) hx hb htb in_L hown hK hP 5 rfl rfl 3 (by decide) (htb _ wd_59) (fun _ h9 => h9) rfl d_L_add_12 ?_
    refine lv_iload_n hx hb d_L_add_15 rfl (lv_at hl 1 rfl) ?_
    refine ec_iastN (f := lf) (i := ln) (x := i) hx hb hK hP hD hS 6 0 rfl rfl rfl (by omega) (by decide) d_L_add_16 (fun H locs hP hD hS => ?_)
    replace hP : va_P (dC, dI) vwCl (wX a cI cZ cJ pn px py ln (va_up lf ln i) lt lr sn sf st sr th hn qx qy mn mc mk mo mr ++ rest) H := hP
    replace hD : va_D A (wX a cI cZ cJ pn px py ln (va_up lf ln i) lt lr sn sf st sr th hn qx qy mn mc mk mo mr ++ rest) := hD
    refine lv_aload_n hx hb d_L_add_17 rfl (lv_at hl 0 rfl) ?_
    refine va_get (D := (dC, dI)) (ci := 1) (v := .ref (a 7)) (C := R_L) (T := T_L) (N := 4) hx hb htb in_L hown hK hP 5 rfl rfl 1 (by decide) (htb _ wd_56) (fun _ h9 => h9) rfl d_L_add_18 ?_
    refine lv_aload_n hx hb d_L_add_21 rfl (lv_at hl 0 rfl) ?_
    refine va_get (D := (dC, dI)) (ci := 1) (v := .int (nI ln)) (C := R_L) (T := T_L) (N := 4) hx hb htb in_L hown hK hP 5 rfl rfl 3 (by decide) (htb _ wd_59) (fun _ h9 => h9) rfl d_L_add_22 ?_
    refine lv_iload_n hx hb d_L_add_25 rfl (lv_at hl 2 rfl) ?_
    refine ec_iastN (f := lt) (i := ln) (x := j) hx hb hK hP hD hS 7 0 rfl rfl rfl (by omega) (by decide) d_L_add_26 (fun H locs hP hD hS => ?_)
    replace hP : va_P (dC, dI) vwCl (wX a cI cZ cJ pn px py ln (va_up lf ln i) (va_up lt ln j) lr sn sf st sr th hn qx qy mn mc mk mo mr ++ rest) H := hP
    replace hD : va_D A (wX a cI cZ cJ pn px py ln (va_up lf ln i) (va_up lt ln j) lr sn sf st sr th hn qx qy mn mc mk mo mr ++ rest) := hD
    refine lv_aload_n hx hb d_L_add_27 rfl (lv_at hl 0 rfl) ?_
    refine lv_dup hx hb d_L_add_28 rfl ?_
    refine va_get (D := (dC, dI)) (ci := 1) (v := .int (nI ln)) (C := R_L) (T := T_L) (N := 4) hx hb htb in_L hown hK hP 5 rfl rfl 3 (by decide) (htb _ wd_59) (fun _ h9 => h9) rfl d_L_add_29 ?_
    refine lv_iconst (v := nI 1) hx hb d_L_add_32 (by decide) ?_
    refine ec_iadd hx hb d_L_add_33 ?_
    refine va_put (D := (dC, dI)) (ci := 1) (v := .int (nI (ln + 1))) (ty := .int) (C := R_L) (T := T_L) (N := 4) hx hb htb in_L t_L ty_L nm_L hown hK hP hD hS 5 rfl rfl 3 (by decide) (htb _ wd_59) (fun _ h9 => h9) rfl (by decide +kernel) rfl rfl (Nat.le_of_ble_eq_true rfl) d_L_add_34 (fun H locs hP hD hS => ?_)
    replace hP : va_P (dC, dI) vwCl (wX a cI cZ cJ pn px py (ln + 1) (va_up lf ln i) (va_up lt ln j) lr sn sf st sr th hn qx qy mn mc mk mo mr ++ rest) H := hP
    replace hD : va_D A (wX a cI cZ cJ pn px py (ln + 1) (va_up lf ln i) (va_up lt ln j) lr sn sf st sr th hn qx qy mn mc mk mo mr ++ rest) := hD
    refine lv_aload_n hx hb d_L_add_37 rfl (lv_at hl 0 rfl) ?_
    refine va_get (D := (dC, dI)) (ci := 1) (v := .ref (a 8)) (C := R_L) (T := T_L) (N := 4) hx hb htb in_L hown hK hP 5 rfl rfl 2 (by decide) (htb _ wd_57) (fun _ h9 => h9) rfl d_L_add_38 ?_
    refine lv_iload_n hx hb d_L_add_41 rfl (lv_at hl 1 rfl) ?_
    refine lv_dup2_11 hx hb d_L_add_42 rfl rfl ?_
    refine ec_ialdN (f := lr) (i := i) hx hb hK hP 8 0 rfl rfl (by omega) (by decide) d_L_add_43 ?_
    refine lv_iconst (v := nI 1) hx hb d_L_add_44 (by decide) ?_
    refine lv_iload_n hx hb d_L_add_45 rfl (lv_at hl 2 rfl) ?_
    refine lv_ishl hx hb d_L_add_46 ?_
    refine lv_ior hx hb d_L_add_47 ?_
    refine lv_topi (fun yN eyN => ?_)
    obtain rfl : yN = nI (lr i ||| 2 ^ j) := eyN.trans (ec_bitor hj)
    refine ec_iastN (f := lr) (i := i) (x := lr i ||| 2 ^ j) hx hb hK hP hD hS 8 0 rfl rfl rfl (by omega) (by decide) d_L_add_48 (fun H locs hP hD hS => ?_)
    replace hP : va_P (dC, dI) vwCl (wX a cI cZ cJ pn px py (ln + 1) (va_up lf ln i) (va_up lt ln j) (va_up lr i (lr i ||| 2 ^ j)) sn sf st sr th hn qx qy mn mc mk mo mr ++ rest) H := hP
    replace hD : va_D A (wX a cI cZ cJ pn px py (ln + 1) (va_up lf ln i) (va_up lt ln j) (va_up lr i (lr i ||| 2 ^ j)) sn sf st sr th hn qx qy mn mc mk mo mr ++ rest) := hD
    refine lv_aload_n hx hb d_L_add_49 rfl (lv_at hl 0 rfl) ?_
    refine va_get (D := (dC, dI)) (ci := 1) (v := .ref (a 8)) (C := R_L) (T := T_L) (N := 4) hx hb htb in_L hown hK hP 5 rfl rfl 2 (by decide) (htb _ wd_57) (fun _ h9 => h9) rfl d_L_add_50 ?_
    refine lv_iload_n hx hb d_L_add_53 rfl (lv_at hl 2 rfl) ?_
    refine lv_dup2_11 hx hb d_L_add_54 rfl rfl ?_
    refine ec_ialdN (f := va_up lr i (lr i ||| 2 ^ j)) (i := j) hx hb hK hP 8 0 rfl rfl (by omega) (by decide) d_L_add_55 ?_
    refine lv_iconst (v := nI 1) hx hb d_L_add_56 (by decide) ?_
    refine lv_iload_n hx hb d_L_add_57 rfl (lv_at hl 1 rfl) ?_
    refine lv_ishl hx hb d_L_add_58 ?_
    refine lv_ior hx hb d_L_add_59 ?_
    refine lv_topi (fun yM eyM => ?_)
    obtain rfl : yM = nI ((va_up lr i (lr i ||| 2 ^ j)) j ||| 2 ^ i) := eyM.trans (ec_bitor hi)
    refine ec_iastN (f := va_up lr i (lr i ||| 2 ^ j)) (i := j) (x := (va_up lr i (lr i ||| 2 ^ j)) j ||| 2 ^ i) hx hb hK hP hD hS 8 0 rfl rfl rfl (by omega) (by decide) d_L_add_60 (fun H locs hP hD hS => ?_)
    replace hP : va_P (dC, dI) vwCl (wX a cI cZ cJ pn px py (ln + 1) (va_up lf ln i) (va_up lt ln j) (va_up (va_up lr i (lr i ||| 2 ^ j)) j ((va_up lr i (lr i ||| 2 ^ j)) j ||| 2 ^ i)) sn sf st sr th hn qx qy mn mc mk mo mr ++ rest) H := hP
    replace hD : va_D A (wX a cI cZ cJ pn px py (ln + 1) (va_up lf ln i) (va_up lt ln j) (va_up (va_up lr i (lr i ||| 2 ^ j)) j ((va_up lr i (lr i ||| 2 ^ j)) j ||| 2 ^ i)) sn sf st sr th hn qx qy mn mc mk mo mr ++ rest) := hD
    exact W.vret hx hb hr (fun tS ht hW => ⟨⟨(), rfl, rfl, by show va_P _ _ _ tS.heap; rw [ht]; exact hP⟩, hS.F ht⟩) hS.2.2 d_L_add_61

set_option maxRecDepth 100000 in
set_option maxHeartbeats 4000000 in
theorem c_L_anyCrossing (l : Launch) (dC : Nat → ClassId) (dI : Nat → Nat → Nat) (a : Nat → Nat) (cI cZ cJ : ClassId) (pn : Nat) (px : Nat → Int32) (py : Nat → Int32) (ln : Nat) (lf : Nat → Nat) (lt : Nat → Nat) (lr : Nat → Nat) (sn : Nat) (sf : Nat → Nat) (st : Nat → Nat) (sr : Nat → Nat) (th : Nat → Option Nat) (hn : Nat) (qx : Nat → Int32) (qy : Nat → Int32) (mn : Nat) (mc : Nat → Nat) (mk : Nat → Prop) (mo : Nat → Option Nat) (mr : Nat → Nat) (rest : va_W) (i : Nat) (j : Nat) (g12 : pn ≤ 12) (gN : ∀ i, i < pn → ec_near (px i) ∧ ec_near (py i)) (hi : i < pn) (hj : j < pn) (gln : ln ≤ 10) (glln : ∀ i, i < ln → lf i < pn ∧ lt i < pn) : Met l y_L_anyCrossing (Cond.code y_L_anyCrossing b_L_anyCrossing 5 (some .boolean) :: ec_tbl) ({ frames := 3, cells := 0, slots := 0, locals := 75 }) (va_Pc [.ref (a 5), .ref (a 2), .int (nI i), .int (nI j)] (fun U => va_P (dC, dI) vwCl (wX a cI cZ cJ pn px py ln lf lt lr sn sf st sr th hn qx qy mn mc mk mo mr ++ rest) U.heap ∧ va_K (dC, dI) vwCl (ec_tys cI cZ cJ) U)) (vp_Si (fun r : Int32 => ec_isB r (∃ t, t < ln ∧ ge_Cr (ec_P px py i) (ec_P px py j) (ec_P px py (lf t)) (ec_P px py (lt t))))) 0 0 (fun _ => False) := by
  refine Met.ofW (cc := b_L_anyCrossing) (maxL := 5) (ret := (some .boolean)) (by decide) rfl ?_
  intro p e s m args below meth c s₁ B hml hv0
  obtain ⟨rfl, hP, hK⟩ := hv0
  have hx := B.exec
  have hb := B.bytes
  have hr := B.returns
  have hts := atoms_spec (ws := (Cond.code y_L_anyCrossing b_L_anyCrossing 5 (some .boolean) :: ec_tbl)) B.pre
  have htb : ∀ w ∈ ec_tbl, w.before _ s = true := fun w h => hts w (List.mem_cons_of_mem _ h)
  clear hts
  have hown : s.vm.findClass "ExactMesh$Links" = some m.cls := findClass_of_methodNamed B.named
  have hlocks := B.notSynchronized
  have hl := lv_entry ([.ref (a 5), .ref (a 2), .int (nI i), .int (nI j)]) (n := 5) (Nat.le_of_ble_eq_true rfl)
  rw [lg_entry_eq]
  generalize (lg_sl ([.ref (a 5), .ref (a 2), .int (nI i), .int (nI j)]) ++ List.replicate (5 - (lg_sl ([.ref (a 5), .ref (a 2), .int (nI i), .int (nI j)])).length) Slot.unset).toArray = ls at hl ⊢
  replace hl : lv_has ls 5 [(0, .ref (a 5)), (1, .ref (a 2)), (2, .int (nI i)), (3, .int (nI j))] := hl
  refine lv_iconst (v := nI 0) hx hb d_L_anyCrossing_0 (by decide) ?_
  refine lv_istore hx hb d_L_anyCrossing_1 hl (by decide) rfl (fun ls hl => ?_)
  replace hl : lv_has ls 5 [(4, .int (nI 0)), (0, .ref (a 5)), (1, .ref (a 2)), (2, .int (nI i)), (3, .int (nI j))] := hl
  obtain ⟨t, e_t⟩ : ∃ z : Nat, z = 0 := ⟨_, rfl⟩
  replace hl : lv_has ls 5 [(0, .ref (a 5)), (1, .ref (a 2)), (2, .int (nI i)), (3, .int (nI j)), (4, .int (nI t))] := by (try simp only [e_t]); exact lv_sub hl [1, 2, 3, 4, 0] rfl
  have hle : t ≤ ln := by omega
  have hI : ∀ v, v < t → ¬ ge_Cr (ec_P px py i) (ec_P px py j) (ec_P px py (lf v)) (ec_P px py (lt v)) := by exact fun v hv => by omega
  clear e_t
  generalize hk3 : ln - t = k3
  induction k3 using Nat.strongRecOn generalizing t ls with
  | ind k3 ih3 =>
  refine lv_iload hx hb d_L_anyCrossing_3 (lv_at hl 4 rfl) ?_
  refine lv_aload_n hx hb d_L_anyCrossing_5 rfl (lv_at hl 0 rfl) ?_
  refine va_get (D := (dC, dI)) (ci := 1) (v := .int (nI ln)) (C := R_L) (T := T_L) (N := 4) hx hb htb in_L hown hK hP 5 rfl rfl 3 (by decide) (htb _ wd_59) (fun _ h9 => h9) rfl d_L_anyCrossing_6 ?_
  refine ec_icmp_ge (tgt := 43) hx hb d_L_anyCrossing_9 rfl (by omega) (by omega) (fun h9 => ?_) (fun h9 => ?_)
  · refine lv_iconst (v := nI 0) hx hb d_L_anyCrossing_43 (by decide) ?_
    exact W.zret hx hb hr rfl (fun tS ht hW => ⟨_, rfl, (ec_isB.f0 (fun ⟨v, hv, q⟩ => hI v (by omega) q)), ht⟩) (fun _ h => nomatch h) d_L_anyCrossing_44
  · refine lv_aload_n hx hb d_L_anyCrossing_12 rfl (lv_at hl 1 rfl) ?_
    refine lv_iload_n hx hb d_L_anyCrossing_13 rfl (lv_at hl 2 rfl) ?_
    refine lv_iload_n hx hb d_L_anyCrossing_14 rfl (lv_at hl 3 rfl) ?_
    refine lv_aload_n hx hb d_L_anyCrossing_15 rfl (lv_at hl 0 rfl) ?_
    refine va_get (D := (dC, dI)) (ci := 1) (v := .ref (a 6)) (C := R_L) (T := T_L) (N := 4) hx hb htb in_L hown hK hP 5 rfl rfl 0 (by decide) (htb _ wd_55) (fun _ h9 => h9) rfl d_L_anyCrossing_16 ?_
    refine lv_iload hx hb d_L_anyCrossing_19 (lv_at hl 4 rfl) ?_
    refine ec_ialdN (f := lf) (i := t) hx hb hK hP 6 0 rfl rfl (by omega) (by decide) d_L_anyCrossing_21 ?_
    refine lv_aload_n hx hb d_L_anyCrossing_22 rfl (lv_at hl 0 rfl) ?_
    refine va_get (D := (dC, dI)) (ci := 1) (v := .ref (a 7)) (C := R_L) (T := T_L) (N := 4) hx hb htb in_L hown hK hP 5 rfl rfl 1 (by decide) (htb _ wd_56) (fun _ h9 => h9) rfl d_L_anyCrossing_23 ?_
    refine lv_iload hx hb d_L_anyCrossing_26 (lv_at hl 4 rfl) ?_
    refine ec_ialdN (f := lt) (i := t) hx hb hK hP 7 0 rfl rfl (by omega) (by decide) d_L_anyCrossing_28 ?_
    refine ec_vSi (C := "ExactMesh$Points") (ci := 0) (q := (R_P, T_P, 3)) (q0 := 2) (As := [.int (nI i), .int (nI j), .int (nI (lf t)), .int (nI (lt t))]) (rest := []) ⟨hx, hb, hml, hown, htb⟩ (c_P_areCrossing l dC dI a cI cZ cJ pn px py ln lf lt lr sn sf st sr th hn qx qy mn mc mk mo mr rest i j (lf t) (lt t) g12 gN (by omega) (by omega) (glln t h9).1 (glln t h9).2) kv_P_areCrossing hK hP rfl rfl rfl wd_194 ⟨Nat.le_of_ble_eq_true rfl, Nat.le_of_ble_eq_true rfl⟩ ⟨rfl, rfl⟩ rfl hl.1 rfl (Nat.le_of_ble_eq_true rfl) d_L_anyCrossing_29 ⟨Nat.zero_le _, Nat.zero_le _⟩ (fun r29 hr29 => ?_)
    replace hr29 : ec_isB r29 (ge_Cr (ec_P px py i) (ec_P px py j) (ec_P px py (lf t)) (ec_P px py (lt t))) := hr29
    refine ec_if_eqB (tgt := 37) hx hb hr29 d_L_anyCrossing_32 rfl (fun h32 => ?_) (fun h32 => ?_)
    · refine ec_iinc (k := 4) hx hb d_L_anyCrossing_37 hl rfl (by decide) rfl (fun ls hl => ?_)
      replace hl : lv_has ls 5 [(4, .int (nI (t + 1))), (0, .ref (a 5)), (1, .ref (a 2)), (2, .int (nI i)), (3, .int (nI j))] := hl
      refine lv_goto (tgt := 3) hx hb d_L_anyCrossing_40 rfl ?_
      exact ih3 _ (by omega) (t := t + 1) (ls := ls) (hl := lv_sub hl [1, 2, 3, 4, 0] rfl) (hle := (by omega)) (hI := (lt_s hI h32)) (hk3 := rfl)
    · refine lv_iconst (v := nI 1) hx hb d_L_anyCrossing_35 (by decide) ?_
      exact W.zret hx hb hr rfl (fun tS ht hW => ⟨_, rfl, (ec_isB.t1 ⟨t, by omega, h32⟩), ht⟩) (fun _ h => nomatch h) d_L_anyCrossing_36

set_option maxRecDepth 100000 in
set_option maxHeartbeats 4000000 in
theorem c_S_isFull (l : Launch) (dC : Nat → ClassId) (dI : Nat → Nat → Nat) (a : Nat → Nat) (cI cZ cJ : ClassId) (pn : Nat) (px : Nat → Int32) (py : Nat → Int32) (ln : Nat) (lf : Nat → Nat) (lt : Nat → Nat) (lr : Nat → Nat) (sn : Nat) (sf : Nat → Nat) (st : Nat → Nat) (sr : Nat → Nat) (th : Nat → Option Nat) (hn : Nat) (qx : Nat → Int32) (qy : Nat → Int32) (mn : Nat) (mc : Nat → Nat) (mk : Nat → Prop) (mo : Nat → Option Nat) (mr : Nat → Nat) (rest : va_W) (gsn : sn ≤ 30) : Met l y_L_isFull (Cond.code y_L_isFull b_L_isFull 1 (some .boolean) :: ec_tbl) ({ frames := 0, cells := 0, slots := 0, locals := 0 }) (va_Pc [.ref (a 9)] (fun U => va_P (dC, dI) vwCl (wX a cI cZ cJ pn px py ln lf lt lr sn sf st sr th hn qx qy mn mc mk mo mr ++ rest) U.heap ∧ va_K (dC, dI) vwCl (ec_tys cI cZ cJ) U)) (vp_Si (fun r : Int32 => ec_isB r (30 ≤ sn))) 0 0 (fun _ => False) := by
  refine Met.ofW (cc := b_L_isFull) (maxL := 1) (ret := (some .boolean)) (by decide) rfl ?_
  intro p e s m args below meth c s₁ B hml hv0
  obtain ⟨rfl, hP, hK⟩ := hv0
  have hx := B.exec
  have hb := B.bytes
  have hr := B.returns
  have hts := atoms_spec (ws := (Cond.code y_L_isFull b_L_isFull 1 (some .boolean) :: ec_tbl)) B.pre
  have htb : ∀ w ∈ ec_tbl, w.before _ s = true := fun w h => hts w (List.mem_cons_of_mem _ h)
  clear hts
  have hown : s.vm.findClass "ExactMesh$Links" = some m.cls := findClass_of_methodNamed B.named
  have hlocks := B.notSynchronized
  have hl := lv_entry ([.ref (a 9)]) (n := 1) (Nat.le_of_ble_eq_true rfl)
  rw [lg_entry_eq]
  generalize (lg_sl ([.ref (a 9)]) ++ List.replicate (1 - (lg_sl ([.ref (a 9)])).length) Slot.unset).toArray = ls at hl ⊢
  replace hl : lv_has ls 1 [(0, .ref (a 9))] := hl
  refine lv_aload_n hx hb d_L_isFull_0 rfl (lv_at hl 0 rfl) ?_
  refine va_get (D := (dC, dI)) (ci := 1) (v := .int (nI sn)) (C := R_L) (T := T_L) (N := 4) hx hb htb in_L hown hK hP 9 rfl rfl 3 (by decide) (htb _ wd_59) (fun _ h9 => h9) rfl d_L_isFull_1 ?_
  refine lv_aload_n hx hb d_L_isFull_4 rfl (lv_at hl 0 rfl) ?_
  refine va_get (D := (dC, dI)) (ci := 1) (v := .ref (a 10)) (C := R_L) (T := T_L) (N := 4) hx hb htb in_L hown hK hP 9 rfl rfl 0 (by decide) (htb _ wd_55) (fun _ h9 => h9) rfl d_L_isFull_5 ?_
  refine va_alen (v := nI 30) hx hb hK hP 10 0 rfl rfl rfl d_L_isFull_8 ?_
  refine ec_icmp_lt (tgt := 16) hx hb d_L_isFull_9 rfl (by omega) (by omega) (fun h9 => ?_) (fun h9 => ?_)
  · refine lv_iconst (v := nI 0) hx hb d_L_isFull_16 (by decide) ?_
    exact W.zret hx hb hr rfl (fun tS ht hW => ⟨_, rfl, (ec_isB.f0 (by omega)), ht⟩) (fun _ h => nomatch h) d_L_isFull_17
  · refine lv_iconst (v := nI 1) hx hb d_L_isFull_12 (by decide) ?_
    refine lv_goto (tgt := 17) hx hb d_L_isFull_13 rfl ?_
    exact W.zret hx hb hr rfl (fun tS ht hW => ⟨_, rfl, (ec_isB.t1 (by omega)), ht⟩) (fun _ h => nomatch h) d_L_isFull_17

set_option maxRecDepth 100000 in
set_option maxHeartbeats 4000000 in
theorem c_S_join (l : Launch) (dC : Nat → ClassId) (dI : Nat → Nat → Nat) (a : Nat → Nat) (cI cZ cJ : ClassId) (pn : Nat) (px : Nat → Int32) (py : Nat → Int32) (ln : Nat) (lf : Nat → Nat) (lt : Nat → Nat) (lr : Nat → Nat) (sn : Nat) (sf : Nat → Nat) (st : Nat → Nat) (sr : Nat → Nat) (th : Nat → Option Nat) (hn : Nat) (qx : Nat → Int32) (qy : Nat → Int32) (mn : Nat) (mc : Nat → Nat) (mk : Nat → Prop) (mo : Nat → Option Nat) (mr : Nat → Nat) (rest : va_W) (i : Nat) (j : Nat) (hi : i < 12) (hj : j < 12) (grsn : ∀ a, a < 12 → sr a < 4096) : Met l y_L_join (Cond.code y_L_join b_L_join 3 (some .boolean) :: ec_tbl) ({ frames := 0, cells := 0, slots := 0, locals := 0 }) (va_Pc [.ref (a 9), .int (nI i), .int (nI j)] (fun U => va_P (dC, dI) vwCl (wX a cI cZ cJ pn px py ln lf lt lr sn sf st sr th hn qx qy mn mc mk mo mr ++ rest) U.heap ∧ va_K (dC, dI) vwCl (ec_tys cI cZ cJ) U)) (vp_Si (fun r : Int32 => ec_isB r ((sr i).testBit j = true))) 0 0 (fun _ => False) := by
  refine Met.ofW (cc := b_L_join) (maxL := 3) (ret := (some .boolean)) (by decide) rfl ?_
  intro p e s m args below meth c s₁ B hml hv0
  obtain ⟨rfl, hP, hK⟩ := hv0
  have hx := B.exec
  have hb := B.bytes
  have hr := B.returns
  have hts := atoms_spec (ws := (Cond.code y_L_join b_L_join 3 (some .boolean) :: ec_tbl)) B.pre
  have htb : ∀ w ∈ ec_tbl, w.before _ s = true := fun w h => hts w (List.mem_cons_of_mem _ h)
  clear hts
  have hown : s.vm.findClass "ExactMesh$Links" = some m.cls := findClass_of_methodNamed B.named
  have hlocks := B.notSynchronized
  have hl := lv_entry ([.ref (a 9), .int (nI i), .int (nI j)]) (n := 3) (Nat.le_of_ble_eq_true rfl)
  rw [lg_entry_eq]
  generalize (lg_sl ([.ref (a 9), .int (nI i), .int (nI j)]) ++ List.replicate (3 - (lg_sl ([.ref (a 9), .int (nI i), .int (nI j)])).length) Slot.unset).toArray = ls at hl ⊢
  replace hl : lv_has ls 3 [(0, .ref (a 9)), (1, .int (nI i)), (2, .int (nI j))] := hl
  refine lv_aload_n hx hb d_L_join_0 rfl (lv_at hl 0 rfl) ?_
  refine va_get (D := (dC, dI)) (ci := 1) (v := .ref (a 12)) (C := R_L) (T := T_L) (N := 4) hx hb htb in_L hown hK hP 9 rfl rfl 2 (by decide) (htb _ wd_57) (fun _ h9 => h9) rfl d_L_join_1 ?_
  refine lv_iload_n hx hb d_L_join_4 rfl (lv_at hl 1 rfl) ?_
  refine ec_ialdN (f := sr) (i := i) hx hb hK hP 12 0 rfl rfl (by omega) (by decide) d_L_join_5 ?_
  refine lv_iload_n hx hb d_L_join_6 rfl (lv_at hl 2 rfl) ?_
  refine lv_ishr hx hb d_L_join_7 ?_
  refine lv_iconst (v := nI 1) hx hb d_L_join_8 (by decide) ?_
  refine lv_iand hx hb d_L_join_9 ?_
  refine lv_if_eq (tgt := 17) hx hb d_L_join_10 rfl (fun h10 => ?_) (fun h10 => ?_)
  · refine lv_iconst (v := nI 0) hx hb d_L_join_17 (by decide) ?_
    exact W.zret hx hb hr rfl (fun tS ht hW => ⟨_, rfl, (ec_isB.f0 (ec_join0 (grsn i hi) hj h10)), ht⟩) (fun _ h => nomatch h) d_L_join_18
  · refine lv_iconst (v := nI 1) hx hb d_L_join_13 (by decide) ?_
    refine lv_goto (tgt := 18) hx hb d_L_join_14 rfl ?_
    exact W.zret hx hb hr rfl (fun tS ht hW => ⟨_, rfl, (ec_isB.t1 (ec_join1 (grsn i hi) hj h10)), ht⟩) (fun _ h => nomatch h) d_L_join_18

set_option maxRecDepth 100000 in
set_option maxHeartbeats 4000000 in
theorem c_S_add (l : Launch) (dC : Nat → ClassId) (dI : Nat → Nat → Nat) (a : Nat → Nat) (cI cZ cJ : ClassId) (pn : Nat) (px : Nat → Int32) (py : Nat → Int32) (ln : Nat) (lf : Nat → Nat) (lt : Nat → Nat) (lr : Nat → Nat) (sn : Nat) (sf : Nat → Nat) (st : Nat → Nat) (sr : Nat → Nat) (th : Nat → Option Nat) (hn : Nat) (qx : Nat → Int32) (qy : Nat → Int32) (mn : Nat) (mc : Nat → Nat) (mk : Nat → Prop) (mo : Nat → Option Nat) (mr : Nat → Nat) (rest : va_W) (i : Nat) (j : Nat) (gsn : sn ≤ 30) (hroom : sn < 30) (hi : i < 12) (hj : j < 12) (A : Nat → Prop) (hD : va_D A (wX a cI cZ cJ pn px py ln lf lt lr sn sf st sr th hn qx qy mn mc mk mo mr ++ rest)) : Met l y_L_add (Cond.code y_L_add b_L_add 3 none :: ec_tbl) ({ frames := 1, cells := 0, slots := 0, locals := 20 }) (va_Pc [.ref (a 9), .int (nI i), .int (nI j)] (fun U => va_P (dC, dI) vwCl (wX a cI cZ cJ pn px py ln lf lt lr sn sf st sr th hn qx qy mn mc mk mo mr ++ rest) U.heap ∧ va_K (dC, dI) vwCl (ec_tys cI cZ cJ) U)) (va_Qv (fun (u : Unit) => u = ()) (fun u t => va_P (dC, dI) vwCl (wX a cI cZ cJ pn px py ln lf lt lr (sn + 1) (va_up sf sn i) (va_up st sn j) (va_up (va_up sr i (sr i ||| 2 ^ j)) j ((va_up sr i (sr i ||| 2 ^ j)) j ||| 2 ^ i)) th hn qx qy mn mc mk mo mr ++ rest) t.heap) A) 0 0 A := by
  refine Met.ofW (cc := b_L_add) (maxL := 3) (ret := none) (by decide) rfl ?_
  intro p e s m args below meth c s₁ B hml hv0
  obtain ⟨rfl, hP, hK⟩ := hv0
  have hx := B.exec
  have hb := B.bytes
  have hr := B.returns
  have hts := atoms_spec (ws := (Cond.code y_L_add b_L_add 3 none :: ec_tbl)) B.pre
  have htb : ∀ w ∈ ec_tbl, w.before _ s = true := fun w h => hts w (List.mem_cons_of_mem _ h)
  clear hts
  have hown : s.vm.findClass "ExactMesh$Links" = some m.cls := findClass_of_methodNamed B.named
  have hlocks := B.notSynchronized
  have hl := lv_entry ([.ref (a 9), .int (nI i), .int (nI j)]) (n := 3) (Nat.le_of_ble_eq_true rfl)
  rw [lg_entry_eq]
  generalize (lg_sl ([.ref (a 9), .int (nI i), .int (nI j)]) ++ List.replicate (3 - (lg_sl ([.ref (a 9), .int (nI i), .int (nI j)])).length) Slot.unset).toArray = ls at hl ⊢
  replace hl : lv_has ls 3 [(0, .ref (a 9)), (1, .int (nI i)), (2, .int (nI j))] := hl
  refine ec_start (fun H locs hH hlocs => ?_)
  replace hP : va_P (dC, dI) vwCl (wX a cI cZ cJ pn px py ln lf lt lr sn sf st sr th hn qx qy mn mc mk mo mr ++ rest) H := by rw [hH]; exact hP
  have hS : va_S A s.heap H locs := by rw [hH, hlocs]; exact va_S.rf
  clear hH hlocs
  refine lv_aload_n hx hb d_L_add_0 rfl (lv_at hl 0 rfl) ?_
  refine ec_vSi (C := "ExactMesh$Links") (ci := 1) (q := (R_L, T_L, 4)) (q0 := 9) (As := []) (rest := []) ⟨hx, hb, hml, hown, htb⟩ (c_S_isFull l dC dI a cI cZ cJ pn px py ln lf lt lr sn sf st sr th hn qx qy mn mc mk mo mr rest gsn) kv_L_isFull hK hP rfl rfl rfl wd_209 ⟨Nat.le_of_ble_eq_true rfl, Nat.le_of_ble_eq_true rfl⟩ ⟨rfl, rfl⟩ rfl hl.1 rfl (Nat.le_of_ble_eq_true rfl) d_L_add_1 ⟨Nat.zero_le _, Nat.zero_le _⟩ (fun r1 hr1 => ?_)
  replace hr1 : ec_isB r1 (30 ≤ sn) := hr1
  refine ec_if_neB (tgt := 61) hx hb hr1 d_L_add_4 rfl (fun h4 => ?_) (fun h4 => ?_)
  · exact absurd h4 (by omega)
  · refine lv_aload_n hx hb d_L_add_7 rfl (lv_at hl 0 rfl) ?_
    refine va_get (D := (dC, dI)) (ci := 1) (v := .ref (a 10)) (C := R_L) (T := T_L) (N := 4) hx hb htb in_L hown hK hP 9 rfl rfl 0 (by decide) (htb _ wd_55) (fun _ h9 => h9) rfl d_L_add_8 ?_
    refine lv_aload_n hx hb d_L_add_11 rfl (lv_at hl 0 rfl) ?_
    refine va_get (D := (dC, dI)) (ci := 1) (v := .int (nI sn)) (C := R_L) (T := T_L) (N := 4) hx hb htb in_L hown hK hP 9 rfl rfl 3 (by decide) (htb _ wd_59) (fun _ h9 => h9) rfl d_L_add_12 ?_
    refine lv_iload_n hx hb d_L_add_15 rfl (lv_at hl 1 rfl) ?_
    refine ec_iastN (f := sf) (i := sn) (x := i) hx hb hK hP hD hS 10 0 rfl rfl rfl (by omega) (by decide) d_L_add_16 (fun H locs hP hD hS => ?_)
    replace hP : va_P (dC, dI) vwCl (wX a cI cZ cJ pn px py ln lf lt lr sn (va_up sf sn i) st sr th hn qx qy mn mc mk mo mr ++ rest) H := hP
    replace hD : va_D A (wX a cI cZ cJ pn px py ln lf lt lr sn (va_up sf sn i) st sr th hn qx qy mn mc mk mo mr ++ rest) := hD
    refine lv_aload_n hx hb d_L_add_17 rfl (lv_at hl 0 rfl) ?_
    refine va_get (D := (dC, dI)) (ci := 1) (v := .ref (a 11)) (C := R_L) (T := T_L) (N := 4) hx hb htb in_L hown hK hP 9 rfl rfl 1 (by decide) (htb _ wd_56) (fun _ h9 => h9) rfl d_L_add_18 ?_
    refine lv_aload_n hx hb d_L_add_21 rfl (lv_at hl 0 rfl) ?_
    refine va_get (D := (dC, dI)) (ci := 1) (v := .int (nI sn)) (C := R_L) (T := T_L) (N := 4) hx hb htb in_L hown hK hP 9 rfl rfl 3 (by decide) (htb _ wd_59) (fun _ h9 => h9) rfl d_L_add_22 ?_
    refine lv_iload_n hx hb d_L_add_25 rfl (lv_at hl 2 rfl) ?_
    refine ec_iastN (f := st) (i := sn) (x := j) hx hb hK hP hD hS 11 0 rfl rfl rfl (by omega) (by decide) d_L_add_26 (fun H locs hP hD hS => ?_)
    replace hP : va_P (dC, dI) vwCl (wX a cI cZ cJ pn px py ln lf lt lr sn (va_up sf sn i) (va_up st sn j) sr th hn qx qy mn mc mk mo mr ++ rest) H := hP
    replace hD : va_D A (wX a cI cZ cJ pn px py ln lf lt lr sn (va_up sf sn i) (va_up st sn j) sr th hn qx qy mn mc mk mo mr ++ rest) := hD
    refine lv_aload_n hx hb d_L_add_27 rfl (lv_at hl 0 rfl) ?_
    refine lv_dup hx hb d_L_add_28 rfl ?_
    refine va_get (D := (dC, dI)) (ci := 1) (v := .int (nI sn)) (C := R_L) (T := T_L) (N := 4) hx hb htb in_L hown hK hP 9 rfl rfl 3 (by decide) (htb _ wd_59) (fun _ h9 => h9) rfl d_L_add_29 ?_
    refine lv_iconst (v := nI 1) hx hb d_L_add_32 (by decide) ?_
    refine ec_iadd hx hb d_L_add_33 ?_
    refine va_put (D := (dC, dI)) (ci := 1) (v := .int (nI (sn + 1))) (ty := .int) (C := R_L) (T := T_L) (N := 4) hx hb htb in_L t_L ty_L nm_L hown hK hP hD hS 9 rfl rfl 3 (by decide) (htb _ wd_59) (fun _ h9 => h9) rfl (by decide +kernel) rfl rfl (Nat.le_of_ble_eq_true rfl) d_L_add_34 (fun H locs hP hD hS => ?_)
    replace hP : va_P (dC, dI) vwCl (wX a cI cZ cJ pn px py ln lf lt lr (sn + 1) (va_up sf sn i) (va_up st sn j) sr th hn qx qy mn mc mk mo mr ++ rest) H := hP
    replace hD : va_D A (wX a cI cZ cJ pn px py ln lf lt lr (sn + 1) (va_up sf sn i) (va_up st sn j) sr th hn qx qy mn mc mk mo mr ++ rest) := hD
    refine lv_aload_n hx hb d_L_add_37 rfl (lv_at hl 0 rfl) ?_
    refine va_get (D := (dC, dI)) (ci := 1) (v := .ref (a 12)) (C := R_L) (T := T_L) (N := 4) hx hb htb in_L hown hK hP 9 rfl rfl 2 (by decide) (htb _ wd_57) (fun _ h9 => h9) rfl d_L_add_38 ?_
    refine lv_iload_n hx hb d_L_add_41 rfl (lv_at hl 1 rfl) ?_
    refine lv_dup2_11 hx hb d_L_add_42 rfl rfl ?_
    refine ec_ialdN (f := sr) (i := i) hx hb hK hP 12 0 rfl rfl (by omega) (by decide) d_L_add_43 ?_
    refine lv_iconst (v := nI 1) hx hb d_L_add_44 (by decide) ?_
    refine lv_iload_n hx hb d_L_add_45 rfl (lv_at hl 2 rfl) ?_
    refine lv_ishl hx hb d_L_add_46 ?_
    refine lv_ior hx hb d_L_add_47 ?_
    refine lv_topi (fun yN eyN => ?_)
    obtain rfl : yN = nI (sr i ||| 2 ^ j) := eyN.trans (ec_bitor hj)
    refine ec_iastN (f := sr) (i := i) (x := sr i ||| 2 ^ j) hx hb hK hP hD hS 12 0 rfl rfl rfl (by omega) (by decide) d_L_add_48 (fun H locs hP hD hS => ?_)
    replace hP : va_P (dC, dI) vwCl (wX a cI cZ cJ pn px py ln lf lt lr (sn + 1) (va_up sf sn i) (va_up st sn j) (va_up sr i (sr i ||| 2 ^ j)) th hn qx qy mn mc mk mo mr ++ rest) H := hP
    replace hD : va_D A (wX a cI cZ cJ pn px py ln lf lt lr (sn + 1) (va_up sf sn i) (va_up st sn j) (va_up sr i (sr i ||| 2 ^ j)) th hn qx qy mn mc mk mo mr ++ rest) := hD
    refine lv_aload_n hx hb d_L_add_49 rfl (lv_at hl 0 rfl) ?_
    refine va_get (D := (dC, dI)) (ci := 1) (v := .ref (a 12)) (C := R_L) (T := T_L) (N := 4) hx hb htb in_L hown hK hP 9 rfl rfl 2 (by decide) (htb _ wd_57) (fun _ h9 => h9) rfl d_L_add_50 ?_
    refine lv_iload_n hx hb d_L_add_53 rfl (lv_at hl 2 rfl) ?_
    refine lv_dup2_11 hx hb d_L_add_54 rfl rfl ?_
    refine ec_ialdN (f := va_up sr i (sr i ||| 2 ^ j)) (i := j) hx hb hK hP 12 0 rfl rfl (by omega) (by decide) d_L_add_55 ?_
    refine lv_iconst (v := nI 1) hx hb d_L_add_56 (by decide) ?_
    refine lv_iload_n hx hb d_L_add_57 rfl (lv_at hl 1 rfl) ?_
    refine lv_ishl hx hb d_L_add_58 ?_
    refine lv_ior hx hb d_L_add_59 ?_
    refine lv_topi (fun yM eyM => ?_)
    obtain rfl : yM = nI ((va_up sr i (sr i ||| 2 ^ j)) j ||| 2 ^ i) := eyM.trans (ec_bitor hi)
    refine ec_iastN (f := va_up sr i (sr i ||| 2 ^ j)) (i := j) (x := (va_up sr i (sr i ||| 2 ^ j)) j ||| 2 ^ i) hx hb hK hP hD hS 12 0 rfl rfl rfl (by omega) (by decide) d_L_add_60 (fun H locs hP hD hS => ?_)
    replace hP : va_P (dC, dI) vwCl (wX a cI cZ cJ pn px py ln lf lt lr (sn + 1) (va_up sf sn i) (va_up st sn j) (va_up (va_up sr i (sr i ||| 2 ^ j)) j ((va_up sr i (sr i ||| 2 ^ j)) j ||| 2 ^ i)) th hn qx qy mn mc mk mo mr ++ rest) H := hP
    replace hD : va_D A (wX a cI cZ cJ pn px py ln lf lt lr (sn + 1) (va_up sf sn i) (va_up st sn j) (va_up (va_up sr i (sr i ||| 2 ^ j)) j ((va_up sr i (sr i ||| 2 ^ j)) j ||| 2 ^ i)) th hn qx qy mn mc mk mo mr ++ rest) := hD
    exact W.vret hx hb hr (fun tS ht hW => ⟨⟨(), rfl, rfl, by show va_P _ _ _ tS.heap; rw [ht]; exact hP⟩, hS.F ht⟩) hS.2.2 d_L_add_61

set_option maxRecDepth 100000 in
set_option maxHeartbeats 4000000 in
theorem c_S_anyCrossing (l : Launch) (dC : Nat → ClassId) (dI : Nat → Nat → Nat) (a : Nat → Nat) (cI cZ cJ : ClassId) (pn : Nat) (px : Nat → Int32) (py : Nat → Int32) (ln : Nat) (lf : Nat → Nat) (lt : Nat → Nat) (lr : Nat → Nat) (sn : Nat) (sf : Nat → Nat) (st : Nat → Nat) (sr : Nat → Nat) (th : Nat → Option Nat) (hn : Nat) (qx : Nat → Int32) (qy : Nat → Int32) (mn : Nat) (mc : Nat → Nat) (mk : Nat → Prop) (mo : Nat → Option Nat) (mr : Nat → Nat) (rest : va_W) (i : Nat) (j : Nat) (g12 : pn ≤ 12) (gN : ∀ i, i < pn → ec_near (px i) ∧ ec_near (py i)) (hi : i < pn) (hj : j < pn) (gsn : sn ≤ 30) (glsn : ∀ i, i < sn → sf i < pn ∧ st i < pn) : Met l y_L_anyCrossing (Cond.code y_L_anyCrossing b_L_anyCrossing 5 (some .boolean) :: ec_tbl) ({ frames := 3, cells := 0, slots := 0, locals := 75 }) (va_Pc [.ref (a 9), .ref (a 2), .int (nI i), .int (nI j)] (fun U => va_P (dC, dI) vwCl (wX a cI cZ cJ pn px py ln lf lt lr sn sf st sr th hn qx qy mn mc mk mo mr ++ rest) U.heap ∧ va_K (dC, dI) vwCl (ec_tys cI cZ cJ) U)) (vp_Si (fun r : Int32 => ec_isB r (∃ t, t < sn ∧ ge_Cr (ec_P px py i) (ec_P px py j) (ec_P px py (sf t)) (ec_P px py (st t))))) 0 0 (fun _ => False) := by
  refine Met.ofW (cc := b_L_anyCrossing) (maxL := 5) (ret := (some .boolean)) (by decide) rfl ?_
  intro p e s m args below meth c s₁ B hml hv0
  obtain ⟨rfl, hP, hK⟩ := hv0
  have hx := B.exec
  have hb := B.bytes
  have hr := B.returns
  have hts := atoms_spec (ws := (Cond.code y_L_anyCrossing b_L_anyCrossing 5 (some .boolean) :: ec_tbl)) B.pre
  have htb : ∀ w ∈ ec_tbl, w.before _ s = true := fun w h => hts w (List.mem_cons_of_mem _ h)
  clear hts
  have hown : s.vm.findClass "ExactMesh$Links" = some m.cls := findClass_of_methodNamed B.named
  have hlocks := B.notSynchronized
  have hl := lv_entry ([.ref (a 9), .ref (a 2), .int (nI i), .int (nI j)]) (n := 5) (Nat.le_of_ble_eq_true rfl)
  rw [lg_entry_eq]
  generalize (lg_sl ([.ref (a 9), .ref (a 2), .int (nI i), .int (nI j)]) ++ List.replicate (5 - (lg_sl ([.ref (a 9), .ref (a 2), .int (nI i), .int (nI j)])).length) Slot.unset).toArray = ls at hl ⊢
  replace hl : lv_has ls 5 [(0, .ref (a 9)), (1, .ref (a 2)), (2, .int (nI i)), (3, .int (nI j))] := hl
  refine lv_iconst (v := nI 0) hx hb d_L_anyCrossing_0 (by decide) ?_
  refine lv_istore hx hb d_L_anyCrossing_1 hl (by decide) rfl (fun ls hl => ?_)
  replace hl : lv_has ls 5 [(4, .int (nI 0)), (0, .ref (a 9)), (1, .ref (a 2)), (2, .int (nI i)), (3, .int (nI j))] := hl
  obtain ⟨t, e_t⟩ : ∃ z : Nat, z = 0 := ⟨_, rfl⟩
  replace hl : lv_has ls 5 [(0, .ref (a 9)), (1, .ref (a 2)), (2, .int (nI i)), (3, .int (nI j)), (4, .int (nI t))] := by (try simp only [e_t]); exact lv_sub hl [1, 2, 3, 4, 0] rfl
  have hle : t ≤ sn := by omega
  have hI : ∀ v, v < t → ¬ ge_Cr (ec_P px py i) (ec_P px py j) (ec_P px py (sf v)) (ec_P px py (st v)) := by exact fun v hv => by omega
  clear e_t
  generalize hk3 : sn - t = k3
  induction k3 using Nat.strongRecOn generalizing t ls with
  | ind k3 ih3 =>
  refine lv_iload hx hb d_L_anyCrossing_3 (lv_at hl 4 rfl) ?_
  refine lv_aload_n hx hb d_L_anyCrossing_5 rfl (lv_at hl 0 rfl) ?_
  refine va_get (D := (dC, dI)) (ci := 1) (v := .int (nI sn)) (C := R_L) (T := T_L) (N := 4) hx hb htb in_L hown hK hP 9 rfl rfl 3 (by decide) (htb _ wd_59) (fun _ h9 => h9) rfl d_L_anyCrossing_6 ?_
  refine ec_icmp_ge (tgt := 43) hx hb d_L_anyCrossing_9 rfl (by omega) (by omega) (fun h9 => ?_) (fun h9 => ?_)
  · refine lv_iconst (v := nI 0) hx hb d_L_anyCrossing_43 (by decide) ?_
    exact W.zret hx hb hr rfl (fun tS ht hW => ⟨_, rfl, (ec_isB.f0 (fun ⟨v, hv, q⟩ => hI v (by omega) q)), ht⟩) (fun _ h => nomatch h) d_L_anyCrossing_44
  · refine lv_aload_n hx hb d_L_anyCrossing_12 rfl (lv_at hl 1 rfl) ?_
    refine lv_iload_n hx hb d_L_anyCrossing_13 rfl (lv_at hl 2 rfl) ?_
    refine lv_iload_n hx hb d_L_anyCrossing_14 rfl (lv_at hl 3 rfl) ?_
    refine lv_aload_n hx hb d_L_anyCrossing_15 rfl (lv_at hl 0 rfl) ?_
    refine va_get (D := (dC, dI)) (ci := 1) (v := .ref (a 10)) (C := R_L) (T := T_L) (N := 4) hx hb htb in_L hown hK hP 9 rfl rfl 0 (by decide) (htb _ wd_55) (fun _ h9 => h9) rfl d_L_anyCrossing_16 ?_
    refine lv_iload hx hb d_L_anyCrossing_19 (lv_at hl 4 rfl) ?_
    refine ec_ialdN (f := sf) (i := t) hx hb hK hP 10 0 rfl rfl (by omega) (by decide) d_L_anyCrossing_21 ?_
    refine lv_aload_n hx hb d_L_anyCrossing_22 rfl (lv_at hl 0 rfl) ?_
    refine va_get (D := (dC, dI)) (ci := 1) (v := .ref (a 11)) (C := R_L) (T := T_L) (N := 4) hx hb htb in_L hown hK hP 9 rfl rfl 1 (by decide) (htb _ wd_56) (fun _ h9 => h9) rfl d_L_anyCrossing_23 ?_
    refine lv_iload hx hb d_L_anyCrossing_26 (lv_at hl 4 rfl) ?_
    refine ec_ialdN (f := st) (i := t) hx hb hK hP 11 0 rfl rfl (by omega) (by decide) d_L_anyCrossing_28 ?_
    refine ec_vSi (C := "ExactMesh$Points") (ci := 0) (q := (R_P, T_P, 3)) (q0 := 2) (As := [.int (nI i), .int (nI j), .int (nI (sf t)), .int (nI (st t))]) (rest := []) ⟨hx, hb, hml, hown, htb⟩ (c_P_areCrossing l dC dI a cI cZ cJ pn px py ln lf lt lr sn sf st sr th hn qx qy mn mc mk mo mr rest i j (sf t) (st t) g12 gN (by omega) (by omega) (glsn t h9).1 (glsn t h9).2) kv_P_areCrossing hK hP rfl rfl rfl wd_194 ⟨Nat.le_of_ble_eq_true rfl, Nat.le_of_ble_eq_true rfl⟩ ⟨rfl, rfl⟩ rfl hl.1 rfl (Nat.le_of_ble_eq_true rfl) d_L_anyCrossing_29 ⟨Nat.zero_le _, Nat.zero_le _⟩ (fun r29 hr29 => ?_)
    replace hr29 : ec_isB r29 (ge_Cr (ec_P px py i) (ec_P px py j) (ec_P px py (sf t)) (ec_P px py (st t))) := hr29
    refine ec_if_eqB (tgt := 37) hx hb hr29 d_L_anyCrossing_32 rfl (fun h32 => ?_) (fun h32 => ?_)
    · refine ec_iinc (k := 4) hx hb d_L_anyCrossing_37 hl rfl (by decide) rfl (fun ls hl => ?_)
      replace hl : lv_has ls 5 [(4, .int (nI (t + 1))), (0, .ref (a 9)), (1, .ref (a 2)), (2, .int (nI i)), (3, .int (nI j))] := hl
      refine lv_goto (tgt := 3) hx hb d_L_anyCrossing_40 rfl ?_
      exact ih3 _ (by omega) (t := t + 1) (ls := ls) (hl := lv_sub hl [1, 2, 3, 4, 0] rfl) (hle := (by omega)) (hI := (lt_s hI h32)) (hk3 := rfl)
    · refine lv_iconst (v := nI 1) hx hb d_L_anyCrossing_35 (by decide) ?_
      exact W.zret hx hb hr rfl (fun tS ht hW => ⟨_, rfl, (ec_isB.t1 ⟨t, by omega, h32⟩), ht⟩) (fun _ h => nomatch h) d_L_anyCrossing_36

set_option maxRecDepth 100000 in
set_option maxHeartbeats 4000000 in
theorem c_L_anyThrough (l : Launch) (dC : Nat → ClassId) (dI : Nat → Nat → Nat) (a : Nat → Nat) (cI cZ cJ : ClassId) (pn : Nat) (px : Nat → Int32) (py : Nat → Int32) (ln : Nat) (lf : Nat → Nat) (lt : Nat → Nat) (lr : Nat → Nat) (sn : Nat) (sf : Nat → Nat) (st : Nat → Nat) (sr : Nat → Nat) (th : Nat → Option Nat) (hn : Nat) (qx : Nat → Int32) (qy : Nat → Int32) (mn : Nat) (mc : Nat → Nat) (mk : Nat → Prop) (mo : Nat → Option Nat) (mr : Nat → Nat) (rest : va_W) (vx : Int32) (vy : Int32) (g12 : pn ≤ 12) (gN : ∀ i, i < pn → ec_near (px i) ∧ ec_near (py i)) (gln : ln ≤ 10) (glln : ∀ i, i < ln → lf i < pn ∧ lt i < pn) : Met l y_L_anyThrough (Cond.code y_L_anyThrough b_L_anyThrough 5 (some .boolean) :: ec_tbl) ({ frames := 2, cells := 0, slots := 0, locals := 52 }) (va_Pc [.ref (a 5), .ref (a 2), .int vx, .int vy] (fun U => va_P (dC, dI) vwCl (wX a cI cZ cJ pn px py ln lf lt lr sn sf st sr th hn qx qy mn mc mk mo mr ++ rest) U.heap ∧ va_K (dC, dI) vwCl (ec_tys cI cZ cJ) U)) (vp_Si (fun r : Int32 => ec_isB r (∃ t, t < ln ∧ ec_on (px (lf t)).toInt (py (lf t)).toInt (px (lt t)).toInt (py (lt t)).toInt vx.toInt vy.toInt))) 0 0 (fun _ => False) := by
  refine Met.ofW (cc := b_L_anyThrough) (maxL := 5) (ret := (some .boolean)) (by decide) rfl ?_
  intro p e s m args below meth c s₁ B hml hv0
  obtain ⟨rfl, hP, hK⟩ := hv0
  have hx := B.exec
  have hb := B.bytes
  have hr := B.returns
  have hts := atoms_spec (ws := (Cond.code y_L_anyThrough b_L_anyThrough 5 (some .boolean) :: ec_tbl)) B.pre
  have htb : ∀ w ∈ ec_tbl, w.before _ s = true := fun w h => hts w (List.mem_cons_of_mem _ h)
  clear hts
  have hown : s.vm.findClass "ExactMesh$Links" = some m.cls := findClass_of_methodNamed B.named
  have hlocks := B.notSynchronized
  have hl := lv_entry ([.ref (a 5), .ref (a 2), .int vx, .int vy]) (n := 5) (Nat.le_of_ble_eq_true rfl)
  rw [lg_entry_eq]
  generalize (lg_sl ([.ref (a 5), .ref (a 2), .int vx, .int vy]) ++ List.replicate (5 - (lg_sl ([.ref (a 5), .ref (a 2), .int vx, .int vy])).length) Slot.unset).toArray = ls at hl ⊢
  replace hl : lv_has ls 5 [(0, .ref (a 5)), (1, .ref (a 2)), (2, .int vx), (3, .int vy)] := hl
  refine lv_iconst (v := nI 0) hx hb d_L_anyThrough_0 (by decide) ?_
  refine lv_istore hx hb d_L_anyThrough_1 hl (by decide) rfl (fun ls hl => ?_)
  replace hl : lv_has ls 5 [(4, .int (nI 0)), (0, .ref (a 5)), (1, .ref (a 2)), (2, .int vx), (3, .int vy)] := hl
  obtain ⟨t, e_t⟩ : ∃ z : Nat, z = 0 := ⟨_, rfl⟩
  replace hl : lv_has ls 5 [(0, .ref (a 5)), (1, .ref (a 2)), (2, .int vx), (3, .int vy), (4, .int (nI t))] := by (try simp only [e_t]); exact lv_sub hl [1, 2, 3, 4, 0] rfl
  have hle : t ≤ ln := by omega
  have hI : ∀ v, v < t → ¬ (ec_on (px (lf v)).toInt (py (lf v)).toInt (px (lt v)).toInt (py (lt v)).toInt vx.toInt vy.toInt) := by exact fun v hv => by omega
  clear e_t
  generalize hk3 : ln - t = k3
  induction k3 using Nat.strongRecOn generalizing t ls with
  | ind k3 ih3 =>
  refine lv_iload hx hb d_L_anyThrough_3 (lv_at hl 4 rfl) ?_
  refine lv_aload_n hx hb d_L_anyThrough_5 rfl (lv_at hl 0 rfl) ?_
  refine va_get (D := (dC, dI)) (ci := 1) (v := .int (nI ln)) (C := R_L) (T := T_L) (N := 4) hx hb htb in_L hown hK hP 5 rfl rfl 3 (by decide) (htb _ wd_59) (fun _ h9 => h9) rfl d_L_anyThrough_6 ?_
  refine ec_icmp_ge (tgt := 43) hx hb d_L_anyThrough_9 rfl (by omega) (by omega) (fun h9 => ?_) (fun h9 => ?_)
  · refine lv_iconst (v := nI 0) hx hb d_L_anyThrough_43 (by decide) ?_
    exact W.zret hx hb hr rfl (fun tS ht hW => ⟨_, rfl, (ec_isB.f0 (fun ⟨v, hv, q⟩ => hI v (by omega) q)), ht⟩) (fun _ h => nomatch h) d_L_anyThrough_44
  · refine lv_aload_n hx hb d_L_anyThrough_12 rfl (lv_at hl 1 rfl) ?_
    refine lv_aload_n hx hb d_L_anyThrough_13 rfl (lv_at hl 0 rfl) ?_
    refine va_get (D := (dC, dI)) (ci := 1) (v := .ref (a 6)) (C := R_L) (T := T_L) (N := 4) hx hb htb in_L hown hK hP 5 rfl rfl 0 (by decide) (htb _ wd_55) (fun _ h9 => h9) rfl d_L_anyThrough_14 ?_
    refine lv_iload hx hb d_L_anyThrough_17 (lv_at hl 4 rfl) ?_
    refine ec_ialdN (f := lf) (i := t) hx hb hK hP 6 0 rfl rfl (by omega) (by decide) d_L_anyThrough_19 ?_
    refine lv_aload_n hx hb d_L_anyThrough_20 rfl (lv_at hl 0 rfl) ?_
    refine va_get (D := (dC, dI)) (ci := 1) (v := .ref (a 7)) (C := R_L) (T := T_L) (N := 4) hx hb htb in_L hown hK hP 5 rfl rfl 1 (by decide) (htb _ wd_56) (fun _ h9 => h9) rfl d_L_anyThrough_21 ?_
    refine lv_iload hx hb d_L_anyThrough_24 (lv_at hl 4 rfl) ?_
    refine ec_ialdN (f := lt) (i := t) hx hb hK hP 7 0 rfl rfl (by omega) (by decide) d_L_anyThrough_26 ?_
    refine lv_iload_n hx hb d_L_anyThrough_27 rfl (lv_at hl 2 rfl) ?_
    refine lv_iload_n hx hb d_L_anyThrough_28 rfl (lv_at hl 3 rfl) ?_
    refine ec_vSi (C := "ExactMesh$Points") (ci := 0) (q := (R_P, T_P, 3)) (q0 := 2) (As := [.int (nI (lf t)), .int (nI (lt t)), .int vx, .int vy]) (rest := []) ⟨hx, hb, hml, hown, htb⟩ (c_P_isBetween l dC dI a cI cZ cJ pn px py ln lf lt lr sn sf st sr th hn qx qy mn mc mk mo mr rest (lf t) (lt t) vx vy g12 gN (glln t h9).1 (glln t h9).2) kv_P_isBetween hK hP rfl rfl rfl wd_150 ⟨Nat.le_of_ble_eq_true rfl, Nat.le_of_ble_eq_true rfl⟩ ⟨rfl, rfl⟩ rfl hl.1 rfl (Nat.le_of_ble_eq_true rfl) d_L_anyThrough_29 ⟨Nat.zero_le _, Nat.zero_le _⟩ (fun r29 hr29 => ?_)
    replace hr29 : ec_isB r29 (ec_on (px (lf t)).toInt (py (lf t)).toInt (px (lt t)).toInt (py (lt t)).toInt vx.toInt vy.toInt) := hr29
    refine ec_if_eqB (tgt := 37) hx hb hr29 d_L_anyThrough_32 rfl (fun h32 => ?_) (fun h32 => ?_)
    · refine ec_iinc (k := 4) hx hb d_L_anyThrough_37 hl rfl (by decide) rfl (fun ls hl => ?_)
      replace hl : lv_has ls 5 [(4, .int (nI (t + 1))), (0, .ref (a 5)), (1, .ref (a 2)), (2, .int vx), (3, .int vy)] := hl
      refine lv_goto (tgt := 3) hx hb d_L_anyThrough_40 rfl ?_
      exact ih3 _ (by omega) (t := t + 1) (ls := ls) (hl := lv_sub hl [1, 2, 3, 4, 0] rfl) (hle := (by omega)) (hI := (lt_s hI h32)) (hk3 := rfl)
    · refine lv_iconst (v := nI 1) hx hb d_L_anyThrough_35 (by decide) ?_
      exact W.zret hx hb hr rfl (fun tS ht hW => ⟨_, rfl, (ec_isB.t1 ⟨t, by omega, h32⟩), ht⟩) (fun _ h => nomatch h) d_L_anyThrough_36

set_option maxRecDepth 100000 in
set_option maxHeartbeats 4000000 in
theorem c_S_clear (l : Launch) (dC : Nat → ClassId) (dI : Nat → Nat → Nat) (a : Nat → Nat) (cI cZ cJ : ClassId) (pn : Nat) (px : Nat → Int32) (py : Nat → Int32) (ln : Nat) (lf : Nat → Nat) (lt : Nat → Nat) (lr : Nat → Nat) (sn : Nat) (sf : Nat → Nat) (st : Nat → Nat) (sr : Nat → Nat) (th : Nat → Option Nat) (hn : Nat) (qx : Nat → Int32) (qy : Nat → Int32) (mn : Nat) (mc : Nat → Nat) (mk : Nat → Prop) (mo : Nat → Option Nat) (mr : Nat → Nat) (rest : va_W) (A : Nat → Prop) (hD : va_D A (wX a cI cZ cJ pn px py ln lf lt lr sn sf st sr th hn qx qy mn mc mk mo mr ++ rest)) : Met l y_L_clear (Cond.code y_L_clear b_L_clear 1 none :: ec_tbl) ({ frames := 1, cells := 0, slots := 0, locals := 23 }) (va_Pc [.ref (a 9)] (fun U => va_P (dC, dI) vwCl (wX a cI cZ cJ pn px py ln lf lt lr sn sf st sr th hn qx qy mn mc mk mo mr ++ rest) U.heap ∧ va_K (dC, dI) vwCl (ec_tys cI cZ cJ) U)) (va_Qv (fun (u : Nat → Nat) => ∀ j, j < 12 → u j = 0) (fun u t => va_P (dC, dI) vwCl (wX a cI cZ cJ pn px py ln lf lt lr 0 sf st u th hn qx qy mn mc mk mo mr ++ rest) t.heap) A) 0 0 A := by
  refine Met.ofW (cc := b_L_clear) (maxL := 1) (ret := none) (by decide) rfl ?_
  intro p e s m args below meth c s₁ B hml hv0
  obtain ⟨rfl, hP, hK⟩ := hv0
  have hx := B.exec
  have hb := B.bytes
  have hr := B.returns
  have hts := atoms_spec (ws := (Cond.code y_L_clear b_L_clear 1 none :: ec_tbl)) B.pre
  have htb : ∀ w ∈ ec_tbl, w.before _ s = true := fun w h => hts w (List.mem_cons_of_mem _ h)
  clear hts
  have hown : s.vm.findClass "ExactMesh$Links" = some m.cls := findClass_of_methodNamed B.named
  have hlocks := B.notSynchronized
  have hl := lv_entry ([.ref (a 9)]) (n := 1) (Nat.le_of_ble_eq_true rfl)
  rw [lg_entry_eq]
  generalize (lg_sl ([.ref (a 9)]) ++ List.replicate (1 - (lg_sl ([.ref (a 9)])).length) Slot.unset).toArray = ls at hl ⊢
  replace hl : lv_has ls 1 [(0, .ref (a 9))] := hl
  refine ec_start (fun H locs hH hlocs => ?_)
  replace hP : va_P (dC, dI) vwCl (wX a cI cZ cJ pn px py ln lf lt lr sn sf st sr th hn qx qy mn mc mk mo mr ++ rest) H := by rw [hH]; exact hP
  have hS : va_S A s.heap H locs := by rw [hH, hlocs]; exact va_S.rf
  clear hH hlocs
  refine lv_aload_n hx hb d_L_clear_0 rfl (lv_at hl 0 rfl) ?_
  refine va_get (D := (dC, dI)) (ci := 1) (v := .ref (a 12)) (C := R_L) (T := T_L) (N := 4) hx hb htb in_L hown hK hP 9 rfl rfl 2 (by decide) (htb _ wd_57) (fun _ h9 => h9) rfl d_L_clear_1 ?_
  refine lv_iconst (v := nI 0) hx hb d_L_clear_4 (by decide) ?_
  refine ec_sQv (As := [.ref (a 12), .int (nI 0)]) (rest := []) ⟨hx, hb, hml, hown, htb⟩ (c_fill_sr l dC dI a cI cZ cJ pn px py ln lf lt lr sn sf st sr th hn qx qy mn mc mk mo mr rest 0 A hD) ks_JA_fill hK hP hS wd_257 ⟨Nat.le_of_ble_eq_true rfl, Nat.le_of_ble_eq_true rfl⟩ ⟨rfl, rfl⟩ rfl hl.1 rfl (Nat.le_of_ble_eq_true rfl) d_L_clear_5 ⟨Nat.zero_le _, Nat.zero_le _⟩ (fun ur5 H locs hr5 hP hS => ?_)
  replace hr5 : ∀ j, j < 12 → ur5 j = 0 := hr5
  replace hP : va_P (dC, dI) vwCl (wX a cI cZ cJ pn px py ln lf lt lr sn sf st ur5 th hn qx qy mn mc mk mo mr ++ rest) H := hP
  replace hD : va_D A (wX a cI cZ cJ pn px py ln lf lt lr sn sf st ur5 th hn qx qy mn mc mk mo mr ++ rest) := ec_Dk hD rfl
  refine lv_aload_n hx hb d_L_clear_8 rfl (lv_at hl 0 rfl) ?_
  refine lv_iconst (v := nI 0) hx hb d_L_clear_9 (by decide) ?_
  refine va_put (D := (dC, dI)) (ci := 1) (v := .int (nI 0)) (ty := .int) (C := R_L) (T := T_L) (N := 4) hx hb htb in_L t_L ty_L nm_L hown hK hP hD hS 9 rfl rfl 3 (by decide) (htb _ wd_59) (fun _ h9 => h9) rfl (by decide +kernel) rfl rfl (Nat.le_of_ble_eq_true rfl) d_L_clear_10 (fun H locs hP hD hS => ?_)
  replace hP : va_P (dC, dI) vwCl (wX a cI cZ cJ pn px py ln lf lt lr 0 sf st ur5 th hn qx qy mn mc mk mo mr ++ rest) H := hP
  replace hD : va_D A (wX a cI cZ cJ pn px py ln lf lt lr 0 sf st ur5 th hn qx qy mn mc mk mo mr ++ rest) := hD
  exact W.vret hx hb hr (fun tS ht hW => ⟨⟨ur5, rfl, hr5, by show va_P _ _ _ tS.heap; rw [ht]; exact hP⟩, hS.F ht⟩) hS.2.2 d_L_clear_13

set_option maxRecDepth 100000 in
set_option maxHeartbeats 4000000 in
theorem c_S_addAll (l : Launch) (dC : Nat → ClassId) (dI : Nat → Nat → Nat) (a : Nat → Nat) (cI cZ cJ : ClassId) (pn : Nat) (px : Nat → Int32) (py : Nat → Int32) (ln : Nat) (lf : Nat → Nat) (lt : Nat → Nat) (lr : Nat → Nat) (sn : Nat) (sf : Nat → Nat) (st : Nat → Nat) (sr : Nat → Nat) (th : Nat → Option Nat) (hn : Nat) (qx : Nat → Int32) (qy : Nat → Int32) (mn : Nat) (mc : Nat → Nat) (mk : Nat → Prop) (mo : Nat → Option Nat) (mr : Nat → Nat) (rest : va_W) (gln : ln ≤ 10) (h0 : sn = 0) (gll : ∀ i, i < ln → lf i < 12 ∧ lt i < 12 ∧ lf i ≠ lt i) (hR0 : ec_R sr (fun _ _ => False)) (A : Nat → Prop) (hD : va_D A (wX a cI cZ cJ pn px py ln lf lt lr sn sf st sr th hn qx qy mn mc mk mo mr ++ rest)) : Met l y_L_addAll (Cond.code y_L_addAll b_L_addAll 3 none :: ec_tbl) ({ frames := 2, cells := 0, slots := 0, locals := 42 }) (va_Pc [.ref (a 9), .ref (a 5)] (fun U => va_P (dC, dI) vwCl (wX a cI cZ cJ pn px py ln lf lt lr sn sf st sr th hn qx qy mn mc mk mo mr ++ rest) U.heap ∧ va_K (dC, dI) vwCl (ec_tys cI cZ cJ) U)) (va_Qv (fun (u : Nat × (Nat → Nat) × (Nat → Nat) × (Nat → Nat)) => u.1 = ln ∧ (∀ j, j < ln → u.2.1 j = lf j ∧ u.2.2.1 j = lt j) ∧ ec_R u.2.2.2 (ec_E ln lf lt)) (fun u t => va_P (dC, dI) vwCl (wX a cI cZ cJ pn px py ln lf lt lr u.1 u.2.1 u.2.2.1 u.2.2.2 th hn qx qy mn mc mk mo mr ++ rest) t.heap) A) 0 0 A := by
  refine Met.ofW (cc := b_L_addAll) (maxL := 3) (ret := none) (by decide) rfl ?_
  intro p e s m args below meth c s₁ B hml hv0
  obtain ⟨rfl, hP, hK⟩ := hv0
  have hx := B.exec
  have hb := B.bytes
  have hr := B.returns
  have hts := atoms_spec (ws := (Cond.code y_L_addAll b_L_addAll 3 none :: ec_tbl)) B.pre
  have htb : ∀ w ∈ ec_tbl, w.before _ s = true := fun w h => hts w (List.mem_cons_of_mem _ h)
  clear hts
  have hown : s.vm.findClass "ExactMesh$Links" = some m.cls := findClass_of_methodNamed B.named
  have hlocks := B.notSynchronized
  have hl := lv_entry ([.ref (a 9), .ref (a 5)]) (n := 3) (Nat.le_of_ble_eq_true rfl)
  rw [lg_entry_eq]
  generalize (lg_sl ([.ref (a 9), .ref (a 5)]) ++ List.replicate (3 - (lg_sl ([.ref (a 9), .ref (a 5)])).length) Slot.unset).toArray = ls at hl ⊢
  replace hl : lv_has ls 3 [(0, .ref (a 9)), (1, .ref (a 5))] := hl
  refine ec_start (fun H locs hH hlocs => ?_)
  replace hP : va_P (dC, dI) vwCl (wX a cI cZ cJ pn px py ln lf lt lr sn sf st sr th hn qx qy mn mc mk mo mr ++ rest) H := by rw [hH]; exact hP
  have hS : va_S A s.heap H locs := by rw [hH, hlocs]; exact va_S.rf
  clear hH hlocs
  refine lv_iconst (v := nI 0) hx hb d_L_addAll_0 (by decide) ?_
  refine lv_istore_n hx hb d_L_addAll_1 rfl hl (by decide) rfl (fun ls hl => ?_)
  replace hl : lv_has ls 3 [(2, .int (nI 0)), (0, .ref (a 9)), (1, .ref (a 5))] := hl
  obtain ⟨i, e_i⟩ : ∃ z : Nat, z = 0 := ⟨_, rfl⟩
  obtain ⟨vn, e_vn⟩ : ∃ z : Nat, z = sn := ⟨_, rfl⟩
  obtain ⟨vf, e_vf⟩ : ∃ z : Nat → Nat, z = sf := ⟨_, rfl⟩
  obtain ⟨vt, e_vt⟩ : ∃ z : Nat → Nat, z = st := ⟨_, rfl⟩
  obtain ⟨vr, e_vr⟩ : ∃ z : Nat → Nat, z = sr := ⟨_, rfl⟩
  replace hl : lv_has ls 3 [(0, .ref (a 9)), (1, .ref (a 5)), (2, .int (nI i))] := by (try simp only [e_i, e_vn, e_vf, e_vt, e_vr]); exact lv_sub hl [1, 2, 0] rfl
  replace hP : va_P (dC, dI) vwCl (wX a cI cZ cJ pn px py ln lf lt lr vn vf vt vr th hn qx qy mn mc mk mo mr ++ rest) H := by (try simp only [e_i, e_vn, e_vf, e_vt, e_vr]); exact hP
  replace hD : va_D A (wX a cI cZ cJ pn px py ln lf lt lr vn vf vt vr th hn qx qy mn mc mk mo mr ++ rest) := ec_Dk hD rfl
  have hle : i ≤ ln := by omega
  have hA : i = vn := by omega
  have hF : ∀ j, j < i → vf j = lf j ∧ vt j = lt j := by exact fun j hj => by omega
  have hR : ec_R vr (ec_E i lf lt) := by rw [e_i, e_vr]; exact ec_R_iff hR0 ec_E_0
  clear e_vr e_vt e_vf e_vn e_i
  generalize hk2 : ln - i = k2
  induction k2 using Nat.strongRecOn generalizing i vn vf vt vr ls H locs with
  | ind k2 ih2 =>
  refine lv_iload_n hx hb d_L_addAll_2 rfl (lv_at hl 2 rfl) ?_
  refine lv_aload_n hx hb d_L_addAll_3 rfl (lv_at hl 1 rfl) ?_
  refine va_get (D := (dC, dI)) (ci := 1) (v := .int (nI ln)) (C := R_L) (T := T_L) (N := 4) hx hb htb in_L hown hK hP 5 rfl rfl 3 (by decide) (htb _ wd_59) (fun _ h9 => h9) rfl d_L_addAll_4 ?_
  refine ec_icmp_ge (tgt := 32) hx hb d_L_addAll_7 rfl (by omega) (by omega) (fun h7 => ?_) (fun h7 => ?_)
  · exact W.vret hx hb hr (fun tS ht hW => ⟨⟨(vn, vf, vt, vr), rfl, ⟨by show vn = ln; omega, fun j hj => hF j (by omega), by rw [show ln = i by omega]; exact hR⟩, by show va_P _ _ _ tS.heap; rw [ht]; exact hP⟩, hS.F ht⟩) hS.2.2 d_L_addAll_32
  · refine lv_aload_n hx hb d_L_addAll_10 rfl (lv_at hl 0 rfl) ?_
    refine lv_aload_n hx hb d_L_addAll_11 rfl (lv_at hl 1 rfl) ?_
    refine va_get (D := (dC, dI)) (ci := 1) (v := .ref (a 6)) (C := R_L) (T := T_L) (N := 4) hx hb htb in_L hown hK hP 5 rfl rfl 0 (by decide) (htb _ wd_55) (fun _ h9 => h9) rfl d_L_addAll_12 ?_
    refine lv_iload_n hx hb d_L_addAll_15 rfl (lv_at hl 2 rfl) ?_
    refine ec_ialdN (f := lf) (i := i) hx hb hK hP 6 0 rfl rfl (by omega) (by decide) d_L_addAll_16 ?_
    refine lv_aload_n hx hb d_L_addAll_17 rfl (lv_at hl 1 rfl) ?_
    refine va_get (D := (dC, dI)) (ci := 1) (v := .ref (a 7)) (C := R_L) (T := T_L) (N := 4) hx hb htb in_L hown hK hP 5 rfl rfl 1 (by decide) (htb _ wd_56) (fun _ h9 => h9) rfl d_L_addAll_18 ?_
    refine lv_iload_n hx hb d_L_addAll_21 rfl (lv_at hl 2 rfl) ?_
    refine ec_ialdN (f := lt) (i := i) hx hb hK hP 7 0 rfl rfl (by omega) (by decide) d_L_addAll_22 ?_
    refine ec_vQv (C := "ExactMesh$Links") (ci := 1) (q := (R_L, T_L, 4)) (q0 := 9) (As := [.int (nI (lf i)), .int (nI (lt i))]) (rest := []) ⟨hx, hb, hml, hown, htb⟩ (c_S_add l dC dI a cI cZ cJ pn px py ln lf lt lr vn vf vt vr th hn qx qy mn mc mk mo mr rest (lf i) (lt i) (by omega) (by omega) (gll i h7).1 (gll i h7).2.1 A hD) kv_L_add hK hP rfl rfl rfl hS wd_264 ⟨Nat.le_of_ble_eq_true rfl, Nat.le_of_ble_eq_true rfl⟩ ⟨rfl, rfl⟩ rfl hl.1 rfl (Nat.le_of_ble_eq_true rfl) d_L_addAll_23 ⟨Nat.zero_le _, Nat.zero_le _⟩ (fun ur23 H locs hr23 hP hS => ?_)
    replace hr23 : ur23 = () := hr23
    replace hP : va_P (dC, dI) vwCl (wX a cI cZ cJ pn px py ln lf lt lr (vn + 1) (va_up vf vn (lf i)) (va_up vt vn (lt i)) (va_up (va_up vr (lf i) (vr (lf i) ||| 2 ^ (lt i))) (lt i) ((va_up vr (lf i) (vr (lf i) ||| 2 ^ (lt i))) (lt i) ||| 2 ^ (lf i))) th hn qx qy mn mc mk mo mr ++ rest) H := hP
    replace hD : va_D A (wX a cI cZ cJ pn px py ln lf lt lr (vn + 1) (va_up vf vn (lf i)) (va_up vt vn (lt i)) (va_up (va_up vr (lf i) (vr (lf i) ||| 2 ^ (lt i))) (lt i) ((va_up vr (lf i) (vr (lf i) ||| 2 ^ (lt i))) (lt i) ||| 2 ^ (lf i))) th hn qx qy mn mc mk mo mr ++ rest) := ec_Dk hD rfl
    refine ec_iinc (k := 2) hx hb d_L_addAll_26 hl rfl (by decide) rfl (fun ls hl => ?_)
    replace hl : lv_has ls 3 [(2, .int (nI (i + 1))), (0, .ref (a 9)), (1, .ref (a 5))] := hl
    refine lv_goto (tgt := 2) hx hb d_L_addAll_29 rfl ?_
    exact ih2 _ (by omega) (i := i + 1) (vn := vn + 1) (vf := va_up vf vn (lf i)) (vt := va_up vt vn (lt i)) (vr := va_up (va_up vr (lf i) (vr (lf i) ||| 2 ^ (lt i))) (lt i) ((va_up vr (lf i) (vr (lf i) ||| 2 ^ (lt i))) (lt i) ||| 2 ^ (lf i))) (ls := ls) (H := H) (locs := locs) (hS := hS) (hl := lv_sub hl [1, 2, 0] rfl) (hP := hP) (hD := hD) (hle := (by omega)) (hA := (by omega)) (hF := (by subst hA; exact fun j hj => ⟨ec_agree_step (fun j hj => (hF j hj).1) j hj, ec_agree_step (fun j hj => (hF j hj).2) j hj⟩)) (hR := (ec_R_iff (ec_R_add2 hR (gll i h7).1 (gll i h7).2.1 (gll i h7).2.2) (fun x y => (ec_E_succ x y).symm))) (hk2 := rfl)
