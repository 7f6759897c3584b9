set_option maxRecDepth 100000 in
set_option maxHeartbeats 4000000 in
theorem c_M_dropMarked (l : Launch) (dC : Nat → ClassId) (dI : Nat → Nat → Nat) (a : Nat → Nat) (cI cZ cJ : ClassId) (pn : Nat) (px : Nat → Int32) (py : Nat → Int32) (ln : Nat) (lf : Nat → Nat) (lt : Nat → Nat) (lr : Nat → Nat) (sn : Nat) (sf : Nat → Nat) (st : Nat → Nat) (sr : Nat → Nat) (th : Nat → Option Nat) (hn : Nat) (qx : Nat → Int32) (qy : Nat → Int32) (mn : Nat) (mc : Nat → Nat) (mk : Nat → Prop) (mo : Nat → Option Nat) (mr : Nat → Nat) (rest : va_W) (T0 : Nat → Nat → Nat → Prop) (T1 : Nat → Nat → Nat → Prop) (hKP : ec_KP T0 T1 pn mn mc mk) (A : Nat → Prop) (hD : va_D A (wX a cI cZ cJ pn px py ln lf lt lr sn sf st sr th hn qx qy mn mc mk mo mr ++ rest)) : Met l y_M_dropMarked (Cond.code y_M_dropMarked b_M_dropMarked 3 none :: ec_tbl) ({ frames := 2, cells := 0, slots := 0, locals := 43 }) (va_Pc [.ref (a 17)] (fun U => va_P (dC, dI) vwCl (wX a cI cZ cJ pn px py ln lf lt lr sn sf st sr th hn qx qy mn mc mk mo mr ++ rest) U.heap ∧ va_K (dC, dI) vwCl (ec_tys cI cZ cJ) U)) (va_Qv (fun (u : Nat × (Nat → Nat) × (Nat → Option Nat) × (Nat → Prop)) => u.1 ≤ mn ∧ ec_En T1 u.1 u.2.1 144 ∧ ec_Ow u.1 u.2.1 u.2.2.1) (fun u t => va_P (dC, dI) vwCl (wX a cI cZ cJ pn px py ln lf lt lr sn sf st sr th hn qx qy u.1 u.2.1 u.2.2.2 u.2.2.1 mr ++ rest) t.heap) A) 0 0 A := by
  refine Met.ofW (cc := b_M_dropMarked) (maxL := 3) (ret := none) (by decide) rfl ?_
  intro p e s m args below meth c s₁ B hml hv0
  obtain ⟨rfl, hP, hK⟩ := hv0
  have hx := B.exec
  have hb := B.bytes
  have hr := B.returns
  have hts := atoms_spec (ws := (Cond.code y_M_dropMarked b_M_dropMarked 3 none :: ec_tbl)) B.pre
  have htb : ∀ w ∈ ec_tbl, w.before _ s = true := fun w h => hts w (List.mem_cons_of_mem _ h)
  clear hts
  have hown : s.vm.findClass "ExactMesh$CarvedMesh" = some m.cls := findClass_of_methodNamed B.named
  have hlocks := B.notSynchronized
  have hl := lv_entry ([.ref (a 17)]) (n := 3) (Nat.le_of_ble_eq_true rfl)
  rw [lg_entry_eq]
  generalize (lg_sl ([.ref (a 17)]) ++ List.replicate (3 - (lg_sl ([.ref (a 17)])).length) Slot.unset).toArray = ls at hl ⊢
  replace hl : lv_has ls 3 [(0, .ref (a 17))] := hl
  refine ec_start (fun H locs hH hlocs => ?_)
  replace hP : va_P (dC, dI) vwCl (wX a cI cZ cJ pn px py ln lf lt lr sn sf st sr th hn qx qy mn mc mk mo mr ++ rest) H := by rw [hH]; exact hP
  have hS : va_S A s.heap H locs := by rw [hH, hlocs]; exact va_S.rf
  clear hH hlocs
  have g19 := hKP.2.2.2.2.2.2.1
  refine lv_aload_n hx hb d_M_dropMarked_0 rfl (lv_at hl 0 rfl) ?_
  refine va_get (D := (dC, dI)) (ci := 3) (v := .int (nI mn)) (C := R_M) (T := T_M) (N := 5) hx hb htb in_M hown hK hP 17 rfl rfl 4 (by decide) (htb _ wd_99) (fun _ h9 => h9) rfl d_M_dropMarked_1 ?_
  refine lv_istore_n hx hb d_M_dropMarked_4 rfl hl (by decide) rfl (fun ls hl => ?_)
  replace hl : lv_has ls 3 [(1, .int (nI mn)), (0, .ref (a 17))] := hl
  refine lv_aload_n hx hb d_M_dropMarked_5 rfl (lv_at hl 1 rfl) ?_
  refine ec_vQv (C := "ExactMesh$CarvedMesh") (ci := 3) (q := (R_M, T_M, 5)) (q0 := 17) (As := []) (rest := []) ⟨hx, hb, hml, hown, htb⟩ (c_M_clear l dC dI a cI cZ cJ pn px py ln lf lt lr sn sf st sr th hn qx qy mn mc mk mo mr rest A hD) kv_M_clear hK hP rfl rfl rfl hS wd_328 ⟨Nat.le_of_ble_eq_true rfl, Nat.le_of_ble_eq_true rfl⟩ ⟨rfl, rfl⟩ rfl hl.1 rfl (Nat.le_of_ble_eq_true rfl) d_M_dropMarked_6 ⟨Nat.zero_le _, Nat.zero_le _⟩ (fun ur6 H locs hr6 hP hS => ?_)
  replace hr6 : ∀ j, j < 144 → ur6 j = none := hr6
  replace hP : va_P (dC, dI) vwCl (wX a cI cZ cJ pn px py ln lf lt lr sn sf st sr th hn qx qy 0 mc mk ur6 mr ++ rest) H := hP
  replace hD : va_D A (wX a cI cZ cJ pn px py ln lf lt lr sn sf st sr th hn qx qy 0 mc mk ur6 mr ++ rest) := ec_Dk hD rfl
  refine lv_iconst (v := nI 0) hx hb d_M_dropMarked_9 (by decide) ?_
  refine lv_istore_n hx hb d_M_dropMarked_10 rfl hl (by decide) rfl (fun ls hl => ?_)
  replace hl : lv_has ls 3 [(2, .int (nI 0)), (1, .int (nI mn)), (0, .ref (a 17))] := hl
  obtain ⟨t, e_t⟩ : ∃ z : Nat, z = 0 := ⟨_, rfl⟩
  obtain ⟨vn, e_vn⟩ : ∃ z : Nat, z = 0 := ⟨_, rfl⟩
  obtain ⟨vc, e_vc⟩ : ∃ z : Nat → Nat, z = mc := ⟨_, rfl⟩
  obtain ⟨vo, e_vo⟩ : ∃ z : Nat → Option Nat, z = ur6 := ⟨_, rfl⟩
  obtain ⟨vk, e_vk⟩ : ∃ z : Nat → Prop, z = mk := ⟨_, rfl⟩
  replace hl : lv_has ls 3 [(0, .ref (a 17)), (1, .int (nI mn)), (2, .int (nI t))] := by (try simp only [e_t, e_vn, e_vc, e_vo, e_vk]); exact lv_sub hl [2, 1, 0] rfl
  replace hP : va_P (dC, dI) vwCl (wX a cI cZ cJ pn px py ln lf lt lr sn sf st sr th hn qx qy vn vc vk vo mr ++ rest) H := by (try simp only [e_t, e_vn, e_vc, e_vo, e_vk]); exact hP
  replace hD : va_D A (wX a cI cZ cJ pn px py ln lf lt lr sn sf st sr th hn qx qy vn vc vk vo mr ++ rest) := ec_Dk hD rfl
  have hle : t ≤ mn := by omega
  have hJ : ec_DR T1 mn mc mk vn vc vo vk t := by simp only [e_t, e_vn, e_vc, e_vo, e_vk]; exact ec_DR_0 hKP hr6
  clear e_vk e_vo e_vc e_vn e_t
  generalize hk11 : mn - t = k11
  induction k11 using Nat.strongRecOn generalizing t vn vc vo vk ls H locs with
  | ind k11 ih11 =>
  refine lv_iload_n hx hb d_M_dropMarked_11 rfl (lv_at hl 2 rfl) ?_
  refine lv_iload_n hx hb d_M_dropMarked_12 rfl (lv_at hl 1 rfl) ?_
  refine ec_icmp_ge (tgt := 53) hx hb d_M_dropMarked_13 rfl (by omega) (by omega) (fun h13 => ?_) (fun h13 => ?_)
  · exact W.vret hx hb hr (fun tS ht hW => ⟨⟨(vn, vc, vo, vk), rfl, (ec_DR_end hJ h13 hle), by show va_P _ _ _ tS.heap; rw [ht]; exact hP⟩, hS.F ht⟩) hS.2.2 d_M_dropMarked_53
  · refine lv_aload_n hx hb d_M_dropMarked_16 rfl (lv_at hl 0 rfl) ?_
    refine va_get (D := (dC, dI)) (ci := 3) (v := .ref (a 19)) (C := R_M) (T := T_M) (N := 5) hx hb htb in_M hown hK hP 17 rfl rfl 1 (by decide) (htb _ wd_96) (fun _ h9 => h9) rfl d_M_dropMarked_17 ?_
    refine lv_iload_n hx hb d_M_dropMarked_20 rfl (lv_at hl 2 rfl) ?_
    refine ec_zaldZ (f := vk) (i := t) hx hb hK hP 19 1 rfl rfl (by omega) (by decide) d_M_dropMarked_21 ?_
    refine ec_if_neB (tgt := 47) hx hb (ec_bp_is _) d_M_dropMarked_22 rfl (fun h22 => ?_) (fun h22 => ?_)
    · refine ec_iinc (k := 2) hx hb d_M_dropMarked_47 hl rfl (by decide) rfl (fun ls hl => ?_)
      replace hl : lv_has ls 3 [(2, .int (nI (t + 1))), (0, .ref (a 17)), (1, .int (nI mn))] := hl
      refine lv_goto (tgt := 11) hx hb d_M_dropMarked_50 rfl ?_
      exact ih11 _ (by omega) (t := t + 1) (vn := vn) (vc := vc) (vo := vo) (vk := vk) (ls := ls) (H := H) (locs := locs) (hS := hS) (hl := lv_sub hl [1, 2, 0] rfl) (hP := hP) (hD := hD) (hle := (by omega)) (hJ := (ec_DR_skip hKP hJ h13 h22)) (hk11 := rfl)
    · have hadd := ec_DR_add hKP hJ h13 h22
      refine lv_aload_n hx hb d_M_dropMarked_25 rfl (lv_at hl 0 rfl) ?_
      refine lv_aload_n hx hb d_M_dropMarked_26 rfl (lv_at hl 0 rfl) ?_
      refine lv_iload_n hx hb d_M_dropMarked_27 rfl (lv_at hl 2 rfl) ?_
      refine lv_iconst (v := nI 0) hx hb d_M_dropMarked_28 (by decide) ?_
      refine ec_vSi (C := "ExactMesh$CarvedMesh") (ci := 3) (q := (R_M, T_M, 5)) (q0 := 17) (As := [.int (nI t), .int (nI 0)]) (rest := [.ref (a 17)]) ⟨hx, hb, hml, hown, htb⟩ (c_M_cornerOf l dC dI a cI cZ cJ pn px py ln lf lt lr sn sf st sr th hn qx qy vn vc vk vo mr rest t 0 (by omega)) kv_M_cornerOf hK hP rfl rfl rfl wd_346 ⟨Nat.le_of_ble_eq_true rfl, Nat.le_of_ble_eq_true rfl⟩ ⟨rfl, rfl⟩ rfl hl.1 rfl (Nat.le_of_ble_eq_true rfl) d_M_dropMarked_29 ⟨Nat.zero_le _, Nat.zero_le _⟩ (fun r29 hr29 => ?_)
      replace hr29 : r29 = nI (vc (3 * t + 0)) := hr29
      subst hr29
      refine lv_aload_n hx hb d_M_dropMarked_32 rfl (lv_at hl 0 rfl) ?_
      refine lv_iload_n hx hb d_M_dropMarked_33 rfl (lv_at hl 2 rfl) ?_
      refine lv_iconst (v := nI 1) hx hb d_M_dropMarked_34 (by decide) ?_
      refine ec_vSi (C := "ExactMesh$CarvedMesh") (ci := 3) (q := (R_M, T_M, 5)) (q0 := 17) (As := [.int (nI t), .int (nI 1)]) (rest := [.int (nI (vc (3 * t + 0))), .ref (a 17)]) ⟨hx, hb, hml, hown, htb⟩ (c_M_cornerOf l dC dI a cI cZ cJ pn px py ln lf lt lr sn sf st sr th hn qx qy vn vc vk vo mr rest t 1 (by omega)) kv_M_cornerOf hK hP rfl rfl rfl wd_346 ⟨Nat.le_of_ble_eq_true rfl, Nat.le_of_ble_eq_true rfl⟩ ⟨rfl, rfl⟩ rfl hl.1 rfl (Nat.le_of_ble_eq_true rfl) d_M_dropMarked_35 ⟨Nat.zero_le _, Nat.zero_le _⟩ (fun r35 hr35 => ?_)
      replace hr35 : r35 = nI (vc (3 * t + 1)) := hr35
      subst hr35
      refine lv_aload_n hx hb d_M_dropMarked_38 rfl (lv_at hl 0 rfl) ?_
      refine lv_iload_n hx hb d_M_dropMarked_39 rfl (lv_at hl 2 rfl) ?_
      refine lv_iconst (v := nI 2) hx hb d_M_dropMarked_40 (by decide) ?_
      refine ec_vSi (C := "ExactMesh$CarvedMesh") (ci := 3) (q := (R_M, T_M, 5)) (q0 := 17) (As := [.int (nI t), .int (nI 2)]) (rest := [.int (nI (vc (3 * t + 1))), .int (nI (vc (3 * t + 0))), .ref (a 17)]) ⟨hx, hb, hml, hown, htb⟩ (c_M_cornerOf l dC dI a cI cZ cJ pn px py ln lf lt lr sn sf st sr th hn qx qy vn vc vk vo mr rest t 2 (by omega)) kv_M_cornerOf hK hP rfl rfl rfl wd_346 ⟨Nat.le_of_ble_eq_true rfl, Nat.le_of_ble_eq_true rfl⟩ ⟨rfl, rfl⟩ rfl hl.1 rfl (Nat.le_of_ble_eq_true rfl) d_M_dropMarked_41 ⟨Nat.zero_le _, Nat.zero_le _⟩ (fun r41 hr41 => ?_)
      replace hr41 : r41 = nI (vc (3 * t + 2)) := hr41
      subst hr41
      refine ec_vQv (C := "ExactMesh$CarvedMesh") (ci := 3) (q := (R_M, T_M, 5)) (q0 := 17) (As := [.int (nI (vc (3 * t + 0))), .int (nI (vc (3 * t + 1))), .int (nI (vc (3 * t + 2)))]) (rest := []) ⟨hx, hb, hml, hown, htb⟩ (c_M_add l dC dI a cI cZ cJ pn px py ln lf lt lr sn sf st sr th hn qx qy vn vc vk vo mr rest (vc (3 * t + 0)) (vc (3 * t + 1)) (vc (3 * t + 2)) hadd.1.1 hadd.1.2.1 hadd.1.2.2.1 hadd.1.2.2.2 A hD) kv_M_add hK hP rfl rfl rfl hS wd_334 ⟨Nat.le_of_ble_eq_true rfl, Nat.le_of_ble_eq_true rfl⟩ ⟨rfl, rfl⟩ rfl hl.1 rfl (Nat.le_of_ble_eq_true rfl) d_M_dropMarked_44 ⟨Nat.zero_le _, Nat.zero_le _⟩ (fun ur44 H locs hr44 hP hS => ?_)
      replace hr44 : ur44 = () := hr44
      replace hP : va_P (dC, dI) vwCl (wX a cI cZ cJ pn px py ln lf lt lr sn sf st sr th hn qx qy (vn + 1) (ec_tc vc vn (vc (3 * t + 0)) (vc (3 * t + 1)) (vc (3 * t + 2))) (va_up vk vn False) (ec_to vo vn (vc (3 * t + 0)) (vc (3 * t + 1)) (vc (3 * t + 2))) mr ++ rest) H := hP
      replace hD : va_D A (wX a cI cZ cJ pn px py ln lf lt lr sn sf st sr th hn qx qy (vn + 1) (ec_tc vc vn (vc (3 * t + 0)) (vc (3 * t + 1)) (vc (3 * t + 2))) (va_up vk vn False) (ec_to vo vn (vc (3 * t + 0)) (vc (3 * t + 1)) (vc (3 * t + 2))) mr ++ rest) := ec_Dk hD rfl
      refine ec_iinc (k := 2) hx hb d_M_dropMarked_47 hl rfl (by decide) rfl (fun ls hl => ?_)
      replace hl : lv_has ls 3 [(2, .int (nI (t + 1))), (0, .ref (a 17)), (1, .int (nI mn))] := hl
      refine lv_goto (tgt := 11) hx hb d_M_dropMarked_50 rfl ?_
      exact ih11 _ (by omega) (t := t + 1) (vn := vn + 1) (vc := ec_tc vc vn (vc (3 * t + 0)) (vc (3 * t + 1)) (vc (3 * t + 2))) (vo := ec_to vo vn (vc (3 * t + 0)) (vc (3 * t + 1)) (vc (3 * t + 2))) (vk := va_up vk vn False) (ls := ls) (H := H) (locs := locs) (hS := hS) (hl := lv_sub hl [1, 2, 0] rfl) (hP := hP) (hD := hD) (hle := (by omega)) (hJ := hadd.2) (hk11 := rfl)

set_option maxRecDepth 100000 in
set_option maxHeartbeats 4000000 in
theorem c_X_isNear (l : Launch) (vx : Int32) (vy : Int32) : Met l y_X_isNear (Cond.code y_X_isNear b_X_isNear 2 (some .boolean) :: ec_tbl) ({ frames := 0, cells := 0, slots := 0, locals := 0 }) (va_Pc [.int vx, .int vy] (fun _ => True)) (vp_Si (fun r : Int32 => ec_isB r (ec_nr2 vx vy))) 0 0 (fun _ => False) := by
  refine Met.ofW (cc := b_X_isNear) (maxL := 2) (ret := (some .boolean)) (by decide) rfl ?_
  intro p e s m args below meth c s₁ B hml hv0
  obtain ⟨rfl, -⟩ := hv0
  have hx := B.exec
  have hb := B.bytes
  have hr := B.returns
  have hts := atoms_spec (ws := (Cond.code y_X_isNear b_X_isNear 2 (some .boolean) :: ec_tbl)) B.pre
  have htb : ∀ w ∈ ec_tbl, w.before _ s = true := fun w h => hts w (List.mem_cons_of_mem _ h)
  clear hts
  have hown : s.vm.findClass "ExactMesh" = some m.cls := findClass_of_methodNamed B.named
  have hlocks := B.notSynchronized
  have hl := lv_entry ([.int vx, .int vy]) (n := 2) (Nat.le_of_ble_eq_true rfl)
  rw [lg_entry_eq]
  generalize (lg_sl ([.int vx, .int vy]) ++ List.replicate (2 - (lg_sl ([.int vx, .int vy])).length) Slot.unset).toArray = ls at hl ⊢
  replace hl : lv_has ls 2 [(0, .int vx), (1, .int vy)] := hl
  refine lv_iload_n hx hb d_X_isNear_0 rfl (lv_at hl 0 rfl) ?_
  refine lv_ldc hx hb hown (htb _ wd_136) d_X_isNear_1 ?_
  refine lv_icmp_lt (tgt := 28) hx hb d_X_isNear_3 rfl (fun h3 => ?_) (fun h3 => ?_)
  · refine lv_iconst (v := nI 0) hx hb d_X_isNear_28 (by decide) ?_
    exact W.zret hx hb hr rfl (fun tS ht hW => ⟨_, rfl, (ec_isB.f0 (fun q => ec_near_lo h3 q.1)), ht⟩) (fun _ h => nomatch h) d_X_isNear_29
  · refine lv_iload_n hx hb d_X_isNear_6 rfl (lv_at hl 0 rfl) ?_
    refine lv_ldc hx hb hown (htb _ wd_137) d_X_isNear_7 ?_
    refine lv_icmp_gt (tgt := 28) hx hb d_X_isNear_9 rfl (fun h9 => ?_) (fun h9 => ?_)
    · refine lv_iconst (v := nI 0) hx hb d_X_isNear_28 (by decide) ?_
      exact W.zret hx hb hr rfl (fun tS ht hW => ⟨_, rfl, (ec_isB.f0 (fun q => ec_near_hi h9 q.1)), ht⟩) (fun _ h => nomatch h) d_X_isNear_29
    · refine lv_iload_n hx hb d_X_isNear_12 rfl (lv_at hl 1 rfl) ?_
      refine lv_ldc hx hb hown (htb _ wd_136) d_X_isNear_13 ?_
      refine lv_icmp_lt (tgt := 28) hx hb d_X_isNear_15 rfl (fun h15 => ?_) (fun h15 => ?_)
      · refine lv_iconst (v := nI 0) hx hb d_X_isNear_28 (by decide) ?_
        exact W.zret hx hb hr rfl (fun tS ht hW => ⟨_, rfl, (ec_isB.f0 (fun q => ec_near_lo h15 q.2)), ht⟩) (fun _ h => nomatch h) d_X_isNear_29
      · refine lv_iload_n hx hb d_X_isNear_18 rfl (lv_at hl 1 rfl) ?_
        refine lv_ldc hx hb hown (htb _ wd_137) d_X_isNear_19 ?_
        refine lv_icmp_gt (tgt := 28) hx hb d_X_isNear_21 rfl (fun h21 => ?_) (fun h21 => ?_)
        · refine lv_iconst (v := nI 0) hx hb d_X_isNear_28 (by decide) ?_
          exact W.zret hx hb hr rfl (fun tS ht hW => ⟨_, rfl, (ec_isB.f0 (fun q => ec_near_hi h21 q.2)), ht⟩) (fun _ h => nomatch h) d_X_isNear_29
        · refine lv_iconst (v := nI 1) hx hb d_X_isNear_24 (by decide) ?_
          refine lv_goto (tgt := 29) hx hb d_X_isNear_25 rfl ?_
          exact W.zret hx hb hr rfl (fun tS ht hW => ⟨_, rfl, (ec_isB.t1 ⟨ec_near_in h3 h9, ec_near_in h15 h21⟩), ht⟩) (fun _ h => nomatch h) d_X_isNear_29

set_option maxRecDepth 100000 in
set_option maxHeartbeats 4000000 in
theorem c_X_vertex (l : Launch) (dC : Nat → ClassId) (dI : Nat → Nat → Nat) (a : Nat → Nat) (cI cZ cJ : ClassId) (pn : Nat) (px : Nat → Int32) (py : Nat → Int32) (ln : Nat) (lf : Nat → Nat) (lt : Nat → Nat) (lr : Nat → Nat) (sn : Nat) (sf : Nat → Nat) (st : Nat → Nat) (sr : Nat → Nat) (th : Nat → Option Nat) (hn : Nat) (qx : Nat → Int32) (qy : Nat → Int32) (mn : Nat) (mc : Nat → Nat) (mk : Nat → Prop) (mo : Nat → Option Nat) (mr : Nat → Nat) (rest : va_W) (vx : Int32) (vy : Int32) (gS : ec_SI pn px py ln lf lt lr) (A : Nat → Prop) (hD : va_D A (wX a cI cZ cJ pn px py ln lf lt lr sn sf st sr th hn qx qy mn mc mk mo mr ++ rest)) : Met l y_X_vertex (Cond.code y_X_vertex b_X_vertex 4 (some .int) :: ec_tbl) ({ frames := 3, cells := 0, slots := 0, locals := 76 }) (va_Pc [.ref (a 0), .int vx, .int vy] (fun U => va_P (dC, dI) vwCl (wX a cI cZ cJ pn px py ln lf lt lr sn sf st sr th hn qx qy mn mc mk mo mr ++ rest) U.heap ∧ va_K (dC, dI) vwCl (ec_tys cI cZ cJ) U)) (va_Qi (fun (r : Int32) (u : ec_V) => (r, u) = ec_vertF pn px py ln lf lt vx vy) (fun u t => va_P (dC, dI) vwCl (wX a cI cZ cJ u.1 u.2.1 u.2.2 ln lf lt lr sn sf st sr th hn qx qy mn mc mk mo mr ++ rest) t.heap) A) 0 0 A := by
  refine Met.ofW (cc := b_X_vertex) (maxL := 4) (ret := (some .int)) (by decide) rfl ?_
  intro p e s m args below meth c s₁ B hml hv0
  obtain ⟨rfl, hP, hK⟩ := hv0
  have hx := B.exec
  have hb := B.bytes
  have hr := B.returns
  have hts := atoms_spec (ws := (Cond.code y_X_vertex b_X_vertex 4 (some .int) :: ec_tbl)) B.pre
  have htb : ∀ w ∈ ec_tbl, w.before _ s = true := fun w h => hts w (List.mem_cons_of_mem _ h)
  clear hts
  have hown : s.vm.findClass "ExactMesh" = some m.cls := findClass_of_methodNamed B.named
  have hlocks := B.notSynchronized
  have hl := lv_entry ([.ref (a 0), .int vx, .int vy]) (n := 4) (Nat.le_of_ble_eq_true rfl)
  rw [lg_entry_eq]
  generalize (lg_sl ([.ref (a 0), .int vx, .int vy]) ++ List.replicate (4 - (lg_sl ([.ref (a 0), .int vx, .int vy])).length) Slot.unset).toArray = ls at hl ⊢
  replace hl : lv_has ls 4 [(0, .ref (a 0)), (1, .int vx), (2, .int vy)] := hl
  refine ec_start (fun H locs hH hlocs => ?_)
  replace hP : va_P (dC, dI) vwCl (wX a cI cZ cJ pn px py ln lf lt lr sn sf st sr th hn qx qy mn mc mk mo mr ++ rest) H := by rw [hH]; exact hP
  have hS : va_S A s.heap H locs := by rw [hH, hlocs]; exact va_S.rf
  clear hH hlocs
  have g12 := gS.1
  have gN := gS.2.1
  have gln := gS.2.2.2.1
  refine lv_iload_n hx hb d_X_vertex_0 rfl (lv_at hl 1 rfl) ?_
  refine lv_iload_n hx hb d_X_vertex_1 rfl (lv_at hl 2 rfl) ?_
  refine ec_sTSi (As := [.int vx, .int vy]) (rest := []) ⟨hx, hb, hml, hown, htb⟩ (c_X_isNear l vx vy) ks_X_isNear wd_133 ⟨Nat.le_of_ble_eq_true rfl, Nat.le_of_ble_eq_true rfl⟩ ⟨rfl, rfl⟩ rfl hl.1 rfl (Nat.le_of_ble_eq_true rfl) d_X_vertex_2 ⟨Nat.zero_le _, Nat.zero_le _⟩ (fun r2 hr2 => ?_)
  replace hr2 : ec_isB r2 (ec_nr2 vx vy) := hr2
  refine ec_if_neB (tgt := 11) hx hb hr2 d_X_vertex_5 rfl (fun h5 => ?_) (fun h5 => ?_)
  · refine lv_aload_n hx hb d_X_vertex_11 rfl (lv_at hl 0 rfl) ?_
    refine va_get (D := (dC, dI)) (ci := 4) (v := .ref (a 2)) (C := R_X) (T := T_X) (N := 5) hx hb htb in_X hown hK hP 0 rfl rfl 1 (by decide) (htb _ wd_114) (fun _ h9 => h9) rfl d_X_vertex_12 ?_
    refine lv_iload_n hx hb d_X_vertex_15 rfl (lv_at hl 1 rfl) ?_
    refine lv_iload_n hx hb d_X_vertex_16 rfl (lv_at hl 2 rfl) ?_
    refine ec_vSi (C := "ExactMesh$Points") (ci := 0) (q := (R_P, T_P, 3)) (q0 := 2) (As := [.int vx, .int vy]) (rest := []) ⟨hx, hb, hml, hown, htb⟩ (c_P_numberAt l dC dI a cI cZ cJ pn px py ln lf lt lr sn sf st sr th hn qx qy mn mc mk mo mr rest vx vy g12) kv_P_numberAt hK hP rfl rfl rfl wd_138 ⟨Nat.le_of_ble_eq_true rfl, Nat.le_of_ble_eq_true rfl⟩ ⟨rfl, rfl⟩ rfl hl.1 rfl (Nat.le_of_ble_eq_true rfl) d_X_vertex_17 ⟨Nat.zero_le _, Nat.zero_le _⟩ (fun r17 hr17 => ?_)
    replace hr17 : ∃ o, r17 = ec_oi o ∧ ec_num pn px py vx vy o := hr17
    obtain ⟨or17, er17, hor17⟩ := hr17
    subst er17
    refine lv_istore_n hx hb d_X_vertex_20 rfl hl (by decide) rfl (fun ls hl => ?_)
    replace hl : lv_has ls 4 [(3, .int (ec_oi or17)), (0, .ref (a 0)), (1, .int vx), (2, .int vy)] := hl
    refine lv_iload_n hx hb d_X_vertex_21 rfl (lv_at hl 0 rfl) ?_
    refine lv_iconst (v := -1) hx hb d_X_vertex_22 (by decide) ?_
    refine ec_icmp_eqO (o := or17) (tgt := 28) hx hb (fun j q => by have := (hor17.1 j q).1; omega) d_X_vertex_23 rfl (fun h23 => ?_) (fun h23 => ?_)
    · refine lv_aload_n hx hb d_X_vertex_28 rfl (lv_at hl 1 rfl) ?_
      refine va_get (D := (dC, dI)) (ci := 4) (v := .ref (a 2)) (C := R_X) (T := T_X) (N := 5) hx hb htb in_X hown hK hP 0 rfl rfl 1 (by decide) (htb _ wd_114) (fun _ h9 => h9) rfl d_X_vertex_29 ?_
      refine ec_vSi (C := "ExactMesh$Points") (ci := 0) (q := (R_P, T_P, 3)) (q0 := 2) (As := []) (rest := []) ⟨hx, hb, hml, hown, htb⟩ (c_P_isFull l dC dI a cI cZ cJ pn px py ln lf lt lr sn sf st sr th hn qx qy mn mc mk mo mr rest g12) kv_P_isFull hK hP rfl rfl rfl wd_142 ⟨Nat.le_of_ble_eq_true rfl, Nat.le_of_ble_eq_true rfl⟩ ⟨rfl, rfl⟩ rfl hl.1 rfl (Nat.le_of_ble_eq_true rfl) d_X_vertex_32 ⟨Nat.zero_le _, Nat.zero_le _⟩ (fun r32 hr32 => ?_)
      replace hr32 : ec_isB r32 (12 ≤ pn) := hr32
      refine ec_if_eqB (tgt := 41) hx hb hr32 d_X_vertex_35 rfl (fun h35 => ?_) (fun h35 => ?_)
      · refine lv_aload_n hx hb d_X_vertex_41 rfl (lv_at hl 1 rfl) ?_
        refine va_get (D := (dC, dI)) (ci := 4) (v := .ref (a 5)) (C := R_X) (T := T_X) (N := 5) hx hb htb in_X hown hK hP 0 rfl rfl 2 (by decide) (htb _ wd_115) (fun _ h9 => h9) rfl d_X_vertex_42 ?_
        refine lv_aload_n hx hb d_X_vertex_45 rfl (lv_at hl 1 rfl) ?_
        refine va_get (D := (dC, dI)) (ci := 4) (v := .ref (a 2)) (C := R_X) (T := T_X) (N := 5) hx hb htb in_X hown hK hP 0 rfl rfl 1 (by decide) (htb _ wd_114) (fun _ h9 => h9) rfl d_X_vertex_46 ?_
        refine lv_iload_n hx hb d_X_vertex_49 rfl (lv_at hl 2 rfl) ?_
        refine lv_iload_n hx hb d_X_vertex_50 rfl (lv_at hl 3 rfl) ?_
        refine ec_vSi (C := "ExactMesh$Links") (ci := 1) (q := (R_L, T_L, 4)) (q0 := 5) (As := [.ref (a 2), .int vx, .int vy]) (rest := []) ⟨hx, hb, hml, hown, htb⟩ (c_L_anyThrough l dC dI a cI cZ cJ pn px py ln lf lt lr sn sf st sr th hn qx qy mn mc mk mo mr rest vx vy g12 gN gln gS.links) kv_L_anyThrough hK hP rfl rfl rfl wd_146 ⟨Nat.le_of_ble_eq_true rfl, Nat.le_of_ble_eq_true rfl⟩ ⟨rfl, rfl⟩ rfl hl.1 rfl (Nat.le_of_ble_eq_true rfl) d_X_vertex_51 ⟨Nat.zero_le _, Nat.zero_le _⟩ (fun r51 hr51 => ?_)
        replace hr51 : ec_isB r51 (∃ t, t < ln ∧ ec_on (px (lf t)).toInt (py (lf t)).toInt (px (lt t)).toInt (py (lt t)).toInt vx.toInt vy.toInt) := hr51
        refine ec_if_eqB (tgt := 60) hx hb hr51 d_X_vertex_54 rfl (fun h54 => ?_) (fun h54 => ?_)
        · refine lv_aload_n hx hb d_X_vertex_60 rfl (lv_at hl 1 rfl) ?_
          refine va_get (D := (dC, dI)) (ci := 4) (v := .ref (a 2)) (C := R_X) (T := T_X) (N := 5) hx hb htb in_X hown hK hP 0 rfl rfl 1 (by decide) (htb _ wd_114) (fun _ h9 => h9) rfl d_X_vertex_61 ?_
          refine lv_iload_n hx hb d_X_vertex_64 rfl (lv_at hl 2 rfl) ?_
          refine lv_iload_n hx hb d_X_vertex_65 rfl (lv_at hl 3 rfl) ?_
          refine ec_vQv (C := "ExactMesh$Points") (ci := 0) (q := (R_P, T_P, 3)) (q0 := 2) (As := [.int vx, .int vy]) (rest := []) ⟨hx, hb, hml, hown, htb⟩ (c_P_add l dC dI a cI cZ cJ pn px py ln lf lt lr sn sf st sr th hn qx qy mn mc mk mo mr rest vx vy g12 (by omega) A hD) kv_P_add hK hP rfl rfl rfl hS wd_164 ⟨Nat.le_of_ble_eq_true rfl, Nat.le_of_ble_eq_true rfl⟩ ⟨rfl, rfl⟩ rfl hl.1 rfl (Nat.le_of_ble_eq_true rfl) d_X_vertex_66 ⟨Nat.zero_le _, Nat.zero_le _⟩ (fun ur66 H locs hr66 hP hS => ?_)
          replace hr66 : ur66 = () := hr66
          replace hP : va_P (dC, dI) vwCl (wX a cI cZ cJ (pn + 1) (upd px pn vx) (upd py pn vy) ln lf lt lr sn sf st sr th hn qx qy mn mc mk mo mr ++ rest) H := hP
          replace hD : va_D A (wX a cI cZ cJ (pn + 1) (upd px pn vx) (upd py pn vy) ln lf lt lr sn sf st sr th hn qx qy mn mc mk mo mr ++ rest) := ec_Dk hD rfl
          refine lv_aload_n hx hb d_X_vertex_69 rfl (lv_at hl 1 rfl) ?_
          refine va_get (D := (dC, dI)) (ci := 4) (v := .ref (a 2)) (C := R_X) (T := T_X) (N := 5) hx hb htb in_X hown hK hP 0 rfl rfl 1 (by decide) (htb _ wd_114) (fun _ h9 => h9) rfl d_X_vertex_70 ?_
          refine va_getN (D := (dC, dI)) (ci := 0) (v := .int (nI (pn + 1))) (C := R_P) (T := T_P) (N := 3) hx hb htb in_P hown hK hP 2 rfl rfl 2 (by decide) (htb _ wd_38) (fun _ h9 => h9) rfl d_X_vertex_73 ?_
          refine lv_iconst (v := nI 1) hx hb d_X_vertex_76 (by decide) ?_
          refine ec_isub hx hb d_X_vertex_77 (by omega) ?_
          exact W.iret hx hb hr (fun tS ht hW => ⟨⟨_, (pn + 1, upd px pn vx, upd py pn vy), rfl, (ec_vertF_new h5 (fun ⟨v, hv, q1, q2⟩ => hor17.2 h23 v hv ⟨q1, q2⟩) h35 h54), by show va_P _ _ _ tS.heap; rw [ht]; exact hP⟩, hS.F ht⟩) hS.2.2 d_X_vertex_78
        · refine lv_bipush (v := -4) hx hb d_X_vertex_57 (by decide) ?_
          exact W.iret hx hb hr (fun tS ht hW => ⟨⟨_, (pn, px, py), rfl, (ec_vertF_on h5 (fun ⟨v, hv, q1, q2⟩ => hor17.2 h23 v hv ⟨q1, q2⟩) h35 h54), by show va_P _ _ _ tS.heap; rw [ht]; exact hP⟩, hS.F ht⟩) hS.2.2 d_X_vertex_59
      · refine lv_bipush (v := -3) hx hb d_X_vertex_38 (by decide) ?_
        exact W.iret hx hb hr (fun tS ht hW => ⟨⟨_, (pn, px, py), rfl, (ec_vertF_full h5 (fun ⟨v, hv, q1, q2⟩ => hor17.2 h23 v hv ⟨q1, q2⟩) h35), by show va_P _ _ _ tS.heap; rw [ht]; exact hP⟩, hS.F ht⟩) hS.2.2 d_X_vertex_40
    · refine lv_iload_n hx hb d_X_vertex_26 rfl (lv_at hl 0 rfl) ?_
      exact W.iret hx hb hr (fun tS ht hW => ⟨⟨_, (pn, px, py), rfl, (by obtain ⟨j, e⟩ := h23; have q := hor17.1 j e; rw [e]; exact ec_vertF_at h5 gS.2.2.1 q.1 q.2.1 q.2.2), by show va_P _ _ _ tS.heap; rw [ht]; exact hP⟩, hS.F ht⟩) hS.2.2 d_X_vertex_27
  · refine lv_bipush (v := -2) hx hb d_X_vertex_8 (by decide) ?_
    exact W.iret hx hb hr (fun tS ht hW => ⟨⟨_, (pn, px, py), rfl, (ec_vertF_far h5), by show va_P _ _ _ tS.heap; rw [ht]; exact hP⟩, hS.F ht⟩) hS.2.2 d_X_vertex_10

set_option maxRecDepth 100000 in
set_option maxHeartbeats 4000000 in
theorem c_X_segment (l : Launch) (dC : Nat → ClassId) (dI : Nat → Nat → Nat) (a : Nat → Nat) (cI cZ cJ : ClassId) (pn : Nat) (px : Nat → Int32) (py : Nat → Int32) (ln : Nat) (lf : Nat → Nat) (lt : Nat → Nat) (lr : Nat → Nat) (sn : Nat) (sf : Nat → Nat) (st : Nat → Nat) (sr : Nat → Nat) (th : Nat → Option Nat) (hn : Nat) (qx : Nat → Int32) (qy : Nat → Int32) (mn : Nat) (mc : Nat → Nat) (mk : Nat → Prop) (mo : Nat → Option Nat) (mr : Nat → Nat) (rest : va_W) (v : Int32) (w : Int32) (gS : ec_SI pn px py ln lf lt lr) (A : Nat → Prop) (hD : va_D A (wX a cI cZ cJ pn px py ln lf lt lr sn sf st sr th hn qx qy mn mc mk mo mr ++ rest)) : Met l y_X_segment (Cond.code y_X_segment b_X_segment 3 (some .int) :: ec_tbl) ({ frames := 4, cells := 0, slots := 0, locals := 99 }) (va_Pc [.ref (a 0), .int v, .int w] (fun U => va_P (dC, dI) vwCl (wX a cI cZ cJ pn px py ln lf lt lr sn sf st sr th hn qx qy mn mc mk mo mr ++ rest) U.heap ∧ va_K (dC, dI) vwCl (ec_tys cI cZ cJ) U)) (va_Qi (fun (r : Int32) (u : Nat × (Nat → Nat) × (Nat → Nat) × (Nat → Nat)) => (r, (u.1, u.2.1, u.2.2.1)) = ec_segF pn px py ln lf lt v w ∧ ec_SI pn px py u.1 u.2.1 u.2.2.1 u.2.2.2) (fun u t => va_P (dC, dI) vwCl (wX a cI cZ cJ pn px py u.1 u.2.1 u.2.2.1 u.2.2.2 sn sf st sr th hn qx qy mn mc mk mo mr ++ rest) t.heap) A) 0 0 A := by
  refine Met.ofW (cc := b_X_segment) (maxL := 3) (ret := (some .int)) (by decide) rfl ?_
  intro p e s m args below meth c s₁ B hml hv0
  obtain ⟨rfl, hP, hK⟩ := hv0
  have hx := B.exec
  have hb := B.bytes
  have hr := B.returns
  have hts := atoms_spec (ws := (Cond.code y_X_segment b_X_segment 3 (some .int) :: ec_tbl)) B.pre
  have htb : ∀ w ∈ ec_tbl, w.before _ s = true := fun w h => hts w (List.mem_cons_of_mem _ h)
  clear hts
  have hown : s.vm.findClass "ExactMesh" = some m.cls := findClass_of_methodNamed B.named
  have hlocks := B.notSynchronized
  have hl := lv_entry ([.ref (a 0), .int v, .int w]) (n := 3) (Nat.le_of_ble_eq_true rfl)
  rw [lg_entry_eq]
  generalize (lg_sl ([.ref (a 0), .int v, .int w]) ++ List.replicate (3 - (lg_sl ([.ref (a 0), .int v, .int w])).length) Slot.unset).toArray = ls at hl ⊢
  replace hl : lv_has ls 3 [(0, .ref (a 0)), (1, .int v), (2, .int w)] := hl
  refine ec_start (fun H locs hH hlocs => ?_)
  replace hP : va_P (dC, dI) vwCl (wX a cI cZ cJ pn px py ln lf lt lr sn sf st sr th hn qx qy mn mc mk mo mr ++ rest) H := by rw [hH]; exact hP
  have hS : va_S A s.heap H locs := by rw [hH, hlocs]; exact va_S.rf
  clear hH hlocs
  have g12 := gS.1
  have gN := gS.2.1
  have gln := gS.2.2.2.1
  refine lv_aload_n hx hb d_X_segment_0 rfl (lv_at hl 0 rfl) ?_
  refine va_get (D := (dC, dI)) (ci := 4) (v := .ref (a 2)) (C := R_X) (T := T_X) (N := 5) hx hb htb in_X hown hK hP 0 rfl rfl 1 (by decide) (htb _ wd_114) (fun _ h9 => h9) rfl d_X_segment_1 ?_
  refine lv_iload_n hx hb d_X_segment_4 rfl (lv_at hl 1 rfl) ?_
  refine ec_vSi (C := "ExactMesh$Points") (ci := 0) (q := (R_P, T_P, 3)) (q0 := 2) (As := [.int v]) (rest := []) ⟨hx, hb, hml, hown, htb⟩ (c_P_has l dC dI a cI cZ cJ pn px py ln lf lt lr sn sf st sr th hn qx qy mn mc mk mo mr rest v g12) kv_P_has hK hP rfl rfl rfl wd_173 ⟨Nat.le_of_ble_eq_true rfl, Nat.le_of_ble_eq_true rfl⟩ ⟨rfl, rfl⟩ rfl hl.1 rfl (Nat.le_of_ble_eq_true rfl) d_X_segment_5 ⟨Nat.zero_le _, Nat.zero_le _⟩ (fun r5 hr5 => ?_)
  replace hr5 : ec_isB r5 (0 ≤ v.toInt ∧ v.toInt < pn) := hr5
  refine ec_if_eqB (tgt := 27) hx hb hr5 d_X_segment_8 rfl (fun h8 => ?_) (fun h8 => ?_)
  · refine lv_bipush (v := -2) hx hb d_X_segment_27 (by decide) ?_
    exact W.iret hx hb hr (fun tS ht hW => ⟨⟨_, (ln, lf, lt, lr), rfl, ⟨ec_segF_arg (Or.inl h8), gS⟩, by show va_P _ _ _ tS.heap; rw [ht]; exact hP⟩, hS.F ht⟩) hS.2.2 d_X_segment_29
  · refine lv_aload_n hx hb d_X_segment_11 rfl (lv_at hl 0 rfl) ?_
    refine va_get (D := (dC, dI)) (ci := 4) (v := .ref (a 2)) (C := R_X) (T := T_X) (N := 5) hx hb htb in_X hown hK hP 0 rfl rfl 1 (by decide) (htb _ wd_114) (fun _ h9 => h9) rfl d_X_segment_12 ?_
    refine lv_iload_n hx hb d_X_segment_15 rfl (lv_at hl 2 rfl) ?_
    refine ec_vSi (C := "ExactMesh$Points") (ci := 0) (q := (R_P, T_P, 3)) (q0 := 2) (As := [.int w]) (rest := []) ⟨hx, hb, hml, hown, htb⟩ (c_P_has l dC dI a cI cZ cJ pn px py ln lf lt lr sn sf st sr th hn qx qy mn mc mk mo mr rest w g12) kv_P_has hK hP rfl rfl rfl wd_173 ⟨Nat.le_of_ble_eq_true rfl, Nat.le_of_ble_eq_true rfl⟩ ⟨rfl, rfl⟩ rfl hl.1 rfl (Nat.le_of_ble_eq_true rfl) d_X_segment_16 ⟨Nat.zero_le _, Nat.zero_le _⟩ (fun r16 hr16 => ?_)
    replace hr16 : ec_isB r16 (0 ≤ w.toInt ∧ w.toInt < pn) := hr16
    refine ec_if_eqB (tgt := 27) hx hb hr16 d_X_segment_19 rfl (fun h19 => ?_) (fun h19 => ?_)
    · refine lv_bipush (v := -2) hx hb d_X_segment_27 (by decide) ?_
      exact W.iret hx hb hr (fun tS ht hW => ⟨⟨_, (ln, lf, lt, lr), rfl, ⟨ec_segF_arg (Or.inr (Or.inl h19)), gS⟩, by show va_P _ _ _ tS.heap; rw [ht]; exact hP⟩, hS.F ht⟩) hS.2.2 d_X_segment_29
    · refine lv_iload_n hx hb d_X_segment_22 rfl (lv_at hl 1 rfl) ?_
      refine lv_iload_n hx hb d_X_segment_23 rfl (lv_at hl 2 rfl) ?_
      refine lv_icmp_ne (tgt := 30) hx hb d_X_segment_24 rfl (fun h24 => ?_) (fun h24 => ?_)
      · obtain ⟨i, hi, hi2, rfl⟩ := ec_ofI h8
        obtain ⟨j, hj, hj2, rfl⟩ := ec_ofI h19
        refine lv_aload_n hx hb d_X_segment_30 rfl (lv_at hl 0 rfl) ?_
        refine va_get (D := (dC, dI)) (ci := 4) (v := .ref (a 5)) (C := R_X) (T := T_X) (N := 5) hx hb htb in_X hown hK hP 0 rfl rfl 2 (by decide) (htb _ wd_115) (fun _ h9 => h9) rfl d_X_segment_31 ?_
        refine lv_iload_n hx hb d_X_segment_34 rfl (lv_at hl 1 rfl) ?_
        refine lv_iload_n hx hb d_X_segment_35 rfl (lv_at hl 2 rfl) ?_
        refine ec_vSi (C := "ExactMesh$Links") (ci := 1) (q := (R_L, T_L, 4)) (q0 := 5) (As := [.int (nI i), .int (nI j)]) (rest := []) ⟨hx, hb, hml, hown, htb⟩ (c_L_join l dC dI a cI cZ cJ pn px py ln lf lt lr sn sf st sr th hn qx qy mn mc mk mo mr rest i j (by omega) (by omega) gS.2.2.2.2.2.2.1) kv_L_join hK hP rfl rfl rfl wd_177 ⟨Nat.le_of_ble_eq_true rfl, Nat.le_of_ble_eq_true rfl⟩ ⟨rfl, rfl⟩ rfl hl.1 rfl (Nat.le_of_ble_eq_true rfl) d_X_segment_36 ⟨Nat.zero_le _, Nat.zero_le _⟩ (fun r36 hr36 => ?_)
        replace hr36 : ec_isB r36 ((lr i).testBit j = true) := hr36
        refine ec_if_neB (tgt := 52) hx hb hr36 d_X_segment_39 rfl (fun h39 => ?_) (fun h39 => ?_)
        · refine lv_bipush (v := -3) hx hb d_X_segment_52 (by decide) ?_
          exact W.iret hx hb hr (fun tS ht hW => ⟨⟨_, (ln, lf, lt, lr), rfl, ⟨ec_segF_num hi hj g12 h24 (Or.inl ((gS.2.2.2.2.2.2.2 i j (by omega) (by omega)).mp h39)), gS⟩, by show va_P _ _ _ tS.heap; rw [ht]; exact hP⟩, hS.F ht⟩) hS.2.2 d_X_segment_54
        · refine lv_aload_n hx hb d_X_segment_42 rfl (lv_at hl 0 rfl) ?_
          refine va_get (D := (dC, dI)) (ci := 4) (v := .ref (a 5)) (C := R_X) (T := T_X) (N := 5) hx hb htb in_X hown hK hP 0 rfl rfl 2 (by decide) (htb _ wd_115) (fun _ h9 => h9) rfl d_X_segment_43 ?_
          refine ec_vSi (C := "ExactMesh$Links") (ci := 1) (q := (R_L, T_L, 4)) (q0 := 5) (As := []) (rest := []) ⟨hx, hb, hml, hown, htb⟩ (c_L_isFull l dC dI a cI cZ cJ pn px py ln lf lt lr sn sf st sr th hn qx qy mn mc mk mo mr rest gln) kv_L_isFull hK hP rfl rfl rfl wd_181 ⟨Nat.le_of_ble_eq_true rfl, Nat.le_of_ble_eq_true rfl⟩ ⟨rfl, rfl⟩ rfl hl.1 rfl (Nat.le_of_ble_eq_true rfl) d_X_segment_46 ⟨Nat.zero_le _, Nat.zero_le _⟩ (fun r46 hr46 => ?_)
          replace hr46 : ec_isB r46 (10 ≤ ln) := hr46
          refine ec_if_eqB (tgt := 55) hx hb hr46 d_X_segment_49 rfl (fun h49 => ?_) (fun h49 => ?_)
          · refine lv_aload_n hx hb d_X_segment_55 rfl (lv_at hl 0 rfl) ?_
            refine va_get (D := (dC, dI)) (ci := 4) (v := .ref (a 2)) (C := R_X) (T := T_X) (N := 5) hx hb htb in_X hown hK hP 0 rfl rfl 1 (by decide) (htb _ wd_114) (fun _ h9 => h9) rfl d_X_segment_56 ?_
            refine lv_iload_n hx hb d_X_segment_59 rfl (lv_at hl 1 rfl) ?_
            refine lv_iload_n hx hb d_X_segment_60 rfl (lv_at hl 2 rfl) ?_
            refine ec_vSi (C := "ExactMesh$Points") (ci := 0) (q := (R_P, T_P, 3)) (q0 := 2) (As := [.int (nI i), .int (nI j)]) (rest := []) ⟨hx, hb, hml, hown, htb⟩ (c_P_anyBetween l dC dI a cI cZ cJ pn px py ln lf lt lr sn sf st sr th hn qx qy mn mc mk mo mr rest i j g12 gN (by omega) (by omega)) kv_P_anyBetween hK hP rfl rfl rfl wd_185 ⟨Nat.le_of_ble_eq_true rfl, Nat.le_of_ble_eq_true rfl⟩ ⟨rfl, rfl⟩ rfl hl.1 rfl (Nat.le_of_ble_eq_true rfl) d_X_segment_61 ⟨Nat.zero_le _, Nat.zero_le _⟩ (fun r61 hr61 => ?_)
            replace hr61 : ec_isB r61 (∃ v, v < pn ∧ v ≠ i ∧ v ≠ j ∧ ge_Btw (ec_P px py i) (ec_P px py j) (ec_P px py v)) := hr61
            refine ec_if_eqB (tgt := 70) hx hb hr61 d_X_segment_64 rfl (fun h64 => ?_) (fun h64 => ?_)
            · refine lv_aload_n hx hb d_X_segment_70 rfl (lv_at hl 0 rfl) ?_
              refine va_get (D := (dC, dI)) (ci := 4) (v := .ref (a 5)) (C := R_X) (T := T_X) (N := 5) hx hb htb in_X hown hK hP 0 rfl rfl 2 (by decide) (htb _ wd_115) (fun _ h9 => h9) rfl d_X_segment_71 ?_
              refine lv_aload_n hx hb d_X_segment_74 rfl (lv_at hl 0 rfl) ?_
              refine va_get (D := (dC, dI)) (ci := 4) (v := .ref (a 2)) (C := R_X) (T := T_X) (N := 5) hx hb htb in_X hown hK hP 0 rfl rfl 1 (by decide) (htb _ wd_114) (fun _ h9 => h9) rfl d_X_segment_75 ?_
              refine lv_iload_n hx hb d_X_segment_78 rfl (lv_at hl 1 rfl) ?_
              refine lv_iload_n hx hb d_X_segment_79 rfl (lv_at hl 2 rfl) ?_
              refine ec_vSi (C := "ExactMesh$Links") (ci := 1) (q := (R_L, T_L, 4)) (q0 := 5) (As := [.ref (a 2), .int (nI i), .int (nI j)]) (rest := []) ⟨hx, hb, hml, hown, htb⟩ (c_L_anyCrossing l dC dI a cI cZ cJ pn px py ln lf lt lr sn sf st sr th hn qx qy mn mc mk mo mr rest i j g12 gN (by omega) (by omega) gln gS.links) kv_L_anyCrossing hK hP rfl rfl rfl wd_190 ⟨Nat.le_of_ble_eq_true rfl, Nat.le_of_ble_eq_true rfl⟩ ⟨rfl, rfl⟩ rfl hl.1 rfl (Nat.le_of_ble_eq_true rfl) d_X_segment_80 ⟨Nat.zero_le _, Nat.zero_le _⟩ (fun r80 hr80 => ?_)
              replace hr80 : ec_isB r80 (∃ t, t < ln ∧ ge_Cr (ec_P px py i) (ec_P px py j) (ec_P px py (lf t)) (ec_P px py (lt t))) := hr80
              refine ec_if_eqB (tgt := 89) hx hb hr80 d_X_segment_83 rfl (fun h83 => ?_) (fun h83 => ?_)
              · refine lv_aload_n hx hb d_X_segment_89 rfl (lv_at hl 0 rfl) ?_
                refine va_get (D := (dC, dI)) (ci := 4) (v := .ref (a 5)) (C := R_X) (T := T_X) (N := 5) hx hb htb in_X hown hK hP 0 rfl rfl 2 (by decide) (htb _ wd_115) (fun _ h9 => h9) rfl d_X_segment_90 ?_
                refine lv_iload_n hx hb d_X_segment_93 rfl (lv_at hl 1 rfl) ?_
                refine lv_iload_n hx hb d_X_segment_94 rfl (lv_at hl 2 rfl) ?_
                refine ec_vQv (C := "ExactMesh$Links") (ci := 1) (q := (R_L, T_L, 4)) (q0 := 5) (As := [.int (nI i), .int (nI j)]) (rest := []) ⟨hx, hb, hml, hown, htb⟩ (c_L_add l dC dI a cI cZ cJ pn px py ln lf lt lr sn sf st sr th hn qx qy mn mc mk mo mr rest i j gln (by omega) (by omega) (by omega) A hD) kv_L_add hK hP rfl rfl rfl hS wd_205 ⟨Nat.le_of_ble_eq_true rfl, Nat.le_of_ble_eq_true rfl⟩ ⟨rfl, rfl⟩ rfl hl.1 rfl (Nat.le_of_ble_eq_true rfl) d_X_segment_95 ⟨Nat.zero_le _, Nat.zero_le _⟩ (fun ur95 H locs hr95 hP hS => ?_)
                replace hr95 : ur95 = () := hr95
                replace hP : va_P (dC, dI) vwCl (wX a cI cZ cJ pn px py (ln + 1) (va_up lf ln i) (va_up lt ln j) (va_up (va_up lr i (lr i ||| 2 ^ j)) j ((va_up lr i (lr i ||| 2 ^ j)) j ||| 2 ^ i)) sn sf st sr th hn qx qy mn mc mk mo mr ++ rest) H := hP
                replace hD : va_D A (wX a cI cZ cJ pn px py (ln + 1) (va_up lf ln i) (va_up lt ln j) (va_up (va_up lr i (lr i ||| 2 ^ j)) j ((va_up lr i (lr i ||| 2 ^ j)) j ||| 2 ^ i)) sn sf st sr th hn qx qy mn mc mk mo mr ++ rest) := ec_Dk hD rfl
                refine lv_aload_n hx hb d_X_segment_98 rfl (lv_at hl 0 rfl) ?_
                refine va_get (D := (dC, dI)) (ci := 4) (v := .ref (a 5)) (C := R_X) (T := T_X) (N := 5) hx hb htb in_X hown hK hP 0 rfl rfl 2 (by decide) (htb _ wd_115) (fun _ h9 => h9) rfl d_X_segment_99 ?_
                refine va_getN (D := (dC, dI)) (ci := 1) (v := .int (nI (ln + 1))) (C := R_L) (T := T_L) (N := 4) hx hb htb in_L hown hK hP 5 rfl rfl 3 (by decide) (htb _ wd_60) (fun _ h9 => h9) rfl d_X_segment_102 ?_
                refine lv_iconst (v := nI 1) hx hb d_X_segment_105 (by decide) ?_
                refine ec_isub hx hb d_X_segment_106 (by omega) ?_
                exact W.iret hx hb hr (fun tS ht hW => ⟨⟨_, (ln + 1, va_up lf ln i, va_up lt ln j, va_up (va_up lr i (lr i ||| 2 ^ j)) j ((va_up lr i (lr i ||| 2 ^ j)) j ||| 2 ^ i)), rfl, ⟨ec_segF_new hi hj g12 h24 (fun q => by rcases q with q | q; exact h39 ((gS.2.2.2.2.2.2.2 i j (by omega) (by omega)).mpr q); exact h49 q) h64 h83, ec_SI_seg gS hi hj h24 (fun q => by rcases q with q | q; exact h39 ((gS.2.2.2.2.2.2.2 i j (by omega) (by omega)).mpr q); exact h49 q) h64 h83⟩, by show va_P _ _ _ tS.heap; rw [ht]; exact hP⟩, hS.F ht⟩) hS.2.2 d_X_segment_107
              · refine lv_bipush (v := -5) hx hb d_X_segment_86 (by decide) ?_
                exact W.iret hx hb hr (fun tS ht hW => ⟨⟨_, (ln, lf, lt, lr), rfl, ⟨ec_segF_cr hi hj g12 h24 (fun q => by rcases q with q | q; exact h39 ((gS.2.2.2.2.2.2.2 i j (by omega) (by omega)).mpr q); exact h49 q) h64 h83, gS⟩, by show va_P _ _ _ tS.heap; rw [ht]; exact hP⟩, hS.F ht⟩) hS.2.2 d_X_segment_88
            · refine lv_bipush (v := -4) hx hb d_X_segment_67 (by decide) ?_
              exact W.iret hx hb hr (fun tS ht hW => ⟨⟨_, (ln, lf, lt, lr), rfl, ⟨ec_segF_btw hi hj g12 h24 (fun q => by rcases q with q | q; exact h39 ((gS.2.2.2.2.2.2.2 i j (by omega) (by omega)).mpr q); exact h49 q) h64, gS⟩, by show va_P _ _ _ tS.heap; rw [ht]; exact hP⟩, hS.F ht⟩) hS.2.2 d_X_segment_69
          · refine lv_bipush (v := -3) hx hb d_X_segment_52 (by decide) ?_
            exact W.iret hx hb hr (fun tS ht hW => ⟨⟨_, (ln, lf, lt, lr), rfl, ⟨ec_segF_num hi hj g12 h24 (Or.inr h49), gS⟩, by show va_P _ _ _ tS.heap; rw [ht]; exact hP⟩, hS.F ht⟩) hS.2.2 d_X_segment_54
      · refine lv_bipush (v := -2) hx hb d_X_segment_27 (by decide) ?_
        exact W.iret hx hb hr (fun tS ht hW => ⟨⟨_, (ln, lf, lt, lr), rfl, ⟨ec_segF_arg (Or.inr (Or.inr h24)), gS⟩, by show va_P _ _ _ tS.heap; rw [ht]; exact hP⟩, hS.F ht⟩) hS.2.2 d_X_segment_29

set_option maxRecDepth 100000 in
set_option maxHeartbeats 4000000 in
theorem c_X_hole (l : Launch) (dC : Nat → ClassId) (dI : Nat → Nat → Nat) (a : Nat → Nat) (cI cZ cJ : ClassId) (pn : Nat) (px : Nat → Int32) (py : Nat → Int32) (ln : Nat) (lf : Nat → Nat) (lt : Nat → Nat) (lr : Nat → Nat) (sn : Nat) (sf : Nat → Nat) (st : Nat → Nat) (sr : Nat → Nat) (th : Nat → Option Nat) (hn : Nat) (qx : Nat → Int32) (qy : Nat → Int32) (mn : Nat) (mc : Nat → Nat) (mk : Nat → Prop) (mo : Nat → Option Nat) (mr : Nat → Nat) (rest : va_W) (vx : Int32) (vy : Int32) (g3 : hn ≤ 3) (A : Nat → Prop) (hD : va_D A (wX a cI cZ cJ pn px py ln lf lt lr sn sf st sr th hn qx qy mn mc mk mo mr ++ rest)) : Met l y_X_hole (Cond.code y_X_hole b_X_hole 3 (some .int) :: ec_tbl) ({ frames := 2, cells := 0, slots := 0, locals := 42 }) (va_Pc [.ref (a 0), .int vx, .int vy] (fun U => va_P (dC, dI) vwCl (wX a cI cZ cJ pn px py ln lf lt lr sn sf st sr th hn qx qy mn mc mk mo mr ++ rest) U.heap ∧ va_K (dC, dI) vwCl (ec_tys cI cZ cJ) U)) (va_Qi (fun (r : Int32) (u : ec_V) => (r, u) = ec_holF hn qx qy vx vy) (fun u t => va_P (dC, dI) vwCl (wX a cI cZ cJ pn px py ln lf lt lr sn sf st sr th u.1 u.2.1 u.2.2 mn mc mk mo mr ++ rest) t.heap) A) 0 0 A := by
  refine Met.ofW (cc := b_X_hole) (maxL := 3) (ret := (some .int)) (by decide) rfl ?_
  intro p e s m args below meth c s₁ B hml hv0
  obtain ⟨rfl, hP, hK⟩ := hv0
  have hx := B.exec
  have hb := B.bytes
  have hr := B.returns
  have hts := atoms_spec (ws := (Cond.code y_X_hole b_X_hole 3 (some .int) :: ec_tbl)) B.pre
  have htb : ∀ w ∈ ec_tbl, w.before _ s = true := fun w h => hts w (List.mem_cons_of_mem _ h)
  clear hts
  have hown : s.vm.findClass "ExactMesh" = some m.cls := findClass_of_methodNamed B.named
  have hlocks := B.notSynchronized
  have hl := lv_entry ([.ref (a 0), .int vx, .int vy]) (n := 3) (Nat.le_of_ble_eq_true rfl)
  rw [lg_entry_eq]
  generalize (lg_sl ([.ref (a 0), .int vx, .int vy]) ++ List.replicate (3 - (lg_sl ([.ref (a 0), .int vx, .int vy])).length) Slot.unset).toArray = ls at hl ⊢
  replace hl : lv_has ls 3 [(0, .ref (a 0)), (1, .int vx), (2, .int vy)] := hl
  refine ec_start (fun H locs hH hlocs => ?_)
  replace hP : va_P (dC, dI) vwCl (wX a cI cZ cJ pn px py ln lf lt lr sn sf st sr th hn qx qy mn mc mk mo mr ++ rest) H := by rw [hH]; exact hP
  have hS : va_S A s.heap H locs := by rw [hH, hlocs]; exact va_S.rf
  clear hH hlocs
  refine lv_iload_n hx hb d_X_hole_0 rfl (lv_at hl 1 rfl) ?_
  refine lv_iload_n hx hb d_X_hole_1 rfl (lv_at hl 2 rfl) ?_
  refine ec_sTSi (As := [.int vx, .int vy]) (rest := []) ⟨hx, hb, hml, hown, htb⟩ (c_X_isNear l vx vy) ks_X_isNear wd_133 ⟨Nat.le_of_ble_eq_true rfl, Nat.le_of_ble_eq_true rfl⟩ ⟨rfl, rfl⟩ rfl hl.1 rfl (Nat.le_of_ble_eq_true rfl) d_X_hole_2 ⟨Nat.zero_le _, Nat.zero_le _⟩ (fun r2 hr2 => ?_)
  replace hr2 : ec_isB r2 (ec_nr2 vx vy) := hr2
  refine ec_if_neB (tgt := 11) hx hb hr2 d_X_hole_5 rfl (fun h5 => ?_) (fun h5 => ?_)
  · refine lv_aload_n hx hb d_X_hole_11 rfl (lv_at hl 0 rfl) ?_
    refine va_get (D := (dC, dI)) (ci := 4) (v := .ref (a 14)) (C := R_X) (T := T_X) (N := 5) hx hb htb in_X hown hK hP 0 rfl rfl 3 (by decide) (htb _ wd_116) (fun _ h9 => h9) rfl d_X_hole_12 ?_
    refine ec_vSi (C := "ExactMesh$Points") (ci := 0) (q := (R_P, T_P, 3)) (q0 := 14) (As := []) (rest := []) ⟨hx, hb, hml, hown, htb⟩ (c_H_isFull l dC dI a cI cZ cJ pn px py ln lf lt lr sn sf st sr th hn qx qy mn mc mk mo mr rest g3) kv_P_isFull hK hP rfl rfl rfl wd_142 ⟨Nat.le_of_ble_eq_true rfl, Nat.le_of_ble_eq_true rfl⟩ ⟨rfl, rfl⟩ rfl hl.1 rfl (Nat.le_of_ble_eq_true rfl) d_X_hole_15 ⟨Nat.zero_le _, Nat.zero_le _⟩ (fun r15 hr15 => ?_)
    replace hr15 : ec_isB r15 (3 ≤ hn) := hr15
    refine ec_if_eqB (tgt := 24) hx hb hr15 d_X_hole_18 rfl (fun h18 => ?_) (fun h18 => ?_)
    · refine lv_aload_n hx hb d_X_hole_24 rfl (lv_at hl 0 rfl) ?_
      refine va_get (D := (dC, dI)) (ci := 4) (v := .ref (a 14)) (C := R_X) (T := T_X) (N := 5) hx hb htb in_X hown hK hP 0 rfl rfl 3 (by decide) (htb _ wd_116) (fun _ h9 => h9) rfl d_X_hole_25 ?_
      refine lv_iload_n hx hb d_X_hole_28 rfl (lv_at hl 1 rfl) ?_
      refine lv_iload_n hx hb d_X_hole_29 rfl (lv_at hl 2 rfl) ?_
      refine ec_vQv (C := "ExactMesh$Points") (ci := 0) (q := (R_P, T_P, 3)) (q0 := 14) (As := [.int vx, .int vy]) (rest := []) ⟨hx, hb, hml, hown, htb⟩ (c_H_add l dC dI a cI cZ cJ pn px py ln lf lt lr sn sf st sr th hn qx qy mn mc mk mo mr rest vx vy g3 (by omega) A hD) kv_P_add hK hP rfl rfl rfl hS wd_164 ⟨Nat.le_of_ble_eq_true rfl, Nat.le_of_ble_eq_true rfl⟩ ⟨rfl, rfl⟩ rfl hl.1 rfl (Nat.le_of_ble_eq_true rfl) d_X_hole_30 ⟨Nat.zero_le _, Nat.zero_le _⟩ (fun ur30 H locs hr30 hP hS => ?_)
      replace hr30 : ur30 = () := hr30
      replace hP : va_P (dC, dI) vwCl (wX a cI cZ cJ pn px py ln lf lt lr sn sf st sr th (hn + 1) (upd qx hn vx) (upd qy hn vy) mn mc mk mo mr ++ rest) H := hP
      replace hD : va_D A (wX a cI cZ cJ pn px py ln lf lt lr sn sf st sr th (hn + 1) (upd qx hn vx) (upd qy hn vy) mn mc mk mo mr ++ rest) := ec_Dk hD rfl
      refine lv_aload_n hx hb d_X_hole_33 rfl (lv_at hl 0 rfl) ?_
      refine va_get (D := (dC, dI)) (ci := 4) (v := .ref (a 14)) (C := R_X) (T := T_X) (N := 5) hx hb htb in_X hown hK hP 0 rfl rfl 3 (by decide) (htb _ wd_116) (fun _ h9 => h9) rfl d_X_hole_34 ?_
      refine va_getN (D := (dC, dI)) (ci := 0) (v := .int (nI (hn + 1))) (C := R_P) (T := T_P) (N := 3) hx hb htb in_P hown hK hP 14 rfl rfl 2 (by decide) (htb _ wd_38) (fun _ h9 => h9) rfl d_X_hole_37 ?_
      exact W.iret hx hb hr (fun tS ht hW => ⟨⟨_, (hn + 1, upd qx hn vx, upd qy hn vy), rfl, (ec_holF_new h5 h18), by show va_P _ _ _ tS.heap; rw [ht]; exact hP⟩, hS.F ht⟩) hS.2.2 d_X_hole_40
    · refine lv_bipush (v := -3) hx hb d_X_hole_21 (by decide) ?_
      exact W.iret hx hb hr (fun tS ht hW => ⟨⟨_, (hn, qx, qy), rfl, (ec_holF_full h5 h18), by show va_P _ _ _ tS.heap; rw [ht]; exact hP⟩, hS.F ht⟩) hS.2.2 d_X_hole_23
  · refine lv_bipush (v := -2) hx hb d_X_hole_8 (by decide) ?_
    exact W.iret hx hb hr (fun tS ht hW => ⟨⟨_, (hn, qx, qy), rfl, (ec_holF_far h5), by show va_P _ _ _ tS.heap; rw [ht]; exact hP⟩, hS.F ht⟩) hS.2.2 d_X_hole_10

set_option maxRecDepth 100000 in
set_option maxHeartbeats 4000000 in
theorem c_X_turn (l : Launch) (dC : Nat → ClassId) (dI : Nat → Nat → Nat) (a : Nat → Nat) (cI cZ cJ : ClassId) (pn : Nat) (px : Nat → Int32) (py : Nat → Int32) (ln : Nat) (lf : Nat → Nat) (lt : Nat → Nat) (lr : Nat → Nat) (sn : Nat) (sf : Nat → Nat) (st : Nat → Nat) (sr : Nat → Nat) (th : Nat → Option Nat) (hn : Nat) (qx : Nat → Int32) (qy : Nat → Int32) (mn : Nat) (mc : Nat → Nat) (mk : Nat → Prop) (mo : Nat → Option Nat) (mr : Nat → Nat) (rest : va_W) (v : Int32) (w : Int32) (z : Int32) (gS : ec_SI pn px py ln lf lt lr) : Met l y_X_turn (Cond.code y_X_turn b_X_turn 4 (some .int) :: ec_tbl) ({ frames := 2, cells := 0, slots := 0, locals := 51 }) (va_Pc [.ref (a 0), .int v, .int w, .int z] (fun U => va_P (dC, dI) vwCl (wX a cI cZ cJ pn px py ln lf lt lr sn sf st sr th hn qx qy mn mc mk mo mr ++ rest) U.heap ∧ va_K (dC, dI) vwCl (ec_tys cI cZ cJ) U)) (vp_Si (fun r : Int32 => r = ec_turF pn px py v w z)) 0 0 (fun _ => False) := by
  refine Met.ofW (cc := b_X_turn) (maxL := 4) (ret := (some .int)) (by decide) rfl ?_
  intro p e s m args below meth c s₁ B hml hv0
  obtain ⟨rfl, hP, hK⟩ := hv0
  have hx := B.exec
  have hb := B.bytes
  have hr := B.returns
  have hts := atoms_spec (ws := (Cond.code y_X_turn b_X_turn 4 (some .int) :: ec_tbl)) B.pre
  have htb : ∀ w ∈ ec_tbl, w.before _ s = true := fun w h => hts w (List.mem_cons_of_mem _ h)
  clear hts
  have hown : s.vm.findClass "ExactMesh" = some m.cls := findClass_of_methodNamed B.named
  have hlocks := B.notSynchronized
  have hl := lv_entry ([.ref (a 0), .int v, .int w, .int z]) (n := 4) (Nat.le_of_ble_eq_true rfl)
  rw [lg_entry_eq]
  generalize (lg_sl ([.ref (a 0), .int v, .int w, .int z]) ++ List.replicate (4 - (lg_sl ([.ref (a 0), .int v, .int w, .int z])).length) Slot.unset).toArray = ls at hl ⊢
  replace hl : lv_has ls 4 [(0, .ref (a 0)), (1, .int v), (2, .int w), (3, .int z)] := hl
  have g12 := gS.1
  have gN := gS.2.1
  have gln := gS.2.2.2.1
  refine lv_aload_n hx hb d_X_turn_0 rfl (lv_at hl 0 rfl) ?_
  refine va_get (D := (dC, dI)) (ci := 4) (v := .ref (a 2)) (C := R_X) (T := T_X) (N := 5) hx hb htb in_X hown hK hP 0 rfl rfl 1 (by decide) (htb _ wd_114) (fun _ h9 => h9) rfl d_X_turn_1 ?_
  refine lv_iload_n hx hb d_X_turn_4 rfl (lv_at hl 1 rfl) ?_
  refine ec_vSi (C := "ExactMesh$Points") (ci := 0) (q := (R_P, T_P, 3)) (q0 := 2) (As := [.int v]) (rest := []) ⟨hx, hb, hml, hown, htb⟩ (c_P_has l dC dI a cI cZ cJ pn px py ln lf lt lr sn sf st sr th hn qx qy mn mc mk mo mr rest v g12) kv_P_has hK hP rfl rfl rfl wd_173 ⟨Nat.le_of_ble_eq_true rfl, Nat.le_of_ble_eq_true rfl⟩ ⟨rfl, rfl⟩ rfl hl.1 rfl (Nat.le_of_ble_eq_true rfl) d_X_turn_5 ⟨Nat.zero_le _, Nat.zero_le _⟩ (fun r5 hr5 => ?_)
  replace hr5 : ec_isB r5 (0 ≤ v.toInt ∧ v.toInt < pn) := hr5
  refine ec_if_eqB (tgt := 33) hx hb hr5 d_X_turn_8 rfl (fun h8 => ?_) (fun h8 => ?_)
  · refine lv_iconst (v := nI 2) hx hb d_X_turn_33 (by decide) ?_
    exact W.iret hx hb hr (fun tS ht hW => ⟨_, rfl, (ec_turF_no (fun q => h8 q.1)), ht⟩) (fun _ h => nomatch h) d_X_turn_34
  · refine lv_aload_n hx hb d_X_turn_11 rfl (lv_at hl 0 rfl) ?_
    refine va_get (D := (dC, dI)) (ci := 4) (v := .ref (a 2)) (C := R_X) (T := T_X) (N := 5) hx hb htb in_X hown hK hP 0 rfl rfl 1 (by decide) (htb _ wd_114) (fun _ h9 => h9) rfl d_X_turn_12 ?_
    refine lv_iload_n hx hb d_X_turn_15 rfl (lv_at hl 2 rfl) ?_
    refine ec_vSi (C := "ExactMesh$Points") (ci := 0) (q := (R_P, T_P, 3)) (q0 := 2) (As := [.int w]) (rest := []) ⟨hx, hb, hml, hown, htb⟩ (c_P_has l dC dI a cI cZ cJ pn px py ln lf lt lr sn sf st sr th hn qx qy mn mc mk mo mr rest w g12) kv_P_has hK hP rfl rfl rfl wd_173 ⟨Nat.le_of_ble_eq_true rfl, Nat.le_of_ble_eq_true rfl⟩ ⟨rfl, rfl⟩ rfl hl.1 rfl (Nat.le_of_ble_eq_true rfl) d_X_turn_16 ⟨Nat.zero_le _, Nat.zero_le _⟩ (fun r16 hr16 => ?_)
    replace hr16 : ec_isB r16 (0 ≤ w.toInt ∧ w.toInt < pn) := hr16
    refine ec_if_eqB (tgt := 33) hx hb hr16 d_X_turn_19 rfl (fun h19 => ?_) (fun h19 => ?_)
    · refine lv_iconst (v := nI 2) hx hb d_X_turn_33 (by decide) ?_
      exact W.iret hx hb hr (fun tS ht hW => ⟨_, rfl, (ec_turF_no (fun q => h19 q.2.1)), ht⟩) (fun _ h => nomatch h) d_X_turn_34
    · refine lv_aload_n hx hb d_X_turn_22 rfl (lv_at hl 0 rfl) ?_
      refine va_get (D := (dC, dI)) (ci := 4) (v := .ref (a 2)) (C := R_X) (T := T_X) (N := 5) hx hb htb in_X hown hK hP 0 rfl rfl 1 (by decide) (htb _ wd_114) (fun _ h9 => h9) rfl d_X_turn_23 ?_
      refine lv_iload_n hx hb d_X_turn_26 rfl (lv_at hl 3 rfl) ?_
      refine ec_vSi (C := "ExactMesh$Points") (ci := 0) (q := (R_P, T_P, 3)) (q0 := 2) (As := [.int z]) (rest := []) ⟨hx, hb, hml, hown, htb⟩ (c_P_has l dC dI a cI cZ cJ pn px py ln lf lt lr sn sf st sr th hn qx qy mn mc mk mo mr rest z g12) kv_P_has hK hP rfl rfl rfl wd_173 ⟨Nat.le_of_ble_eq_true rfl, Nat.le_of_ble_eq_true rfl⟩ ⟨rfl, rfl⟩ rfl hl.1 rfl (Nat.le_of_ble_eq_true rfl) d_X_turn_27 ⟨Nat.zero_le _, Nat.zero_le _⟩ (fun r27 hr27 => ?_)
      replace hr27 : ec_isB r27 (0 ≤ z.toInt ∧ z.toInt < pn) := hr27
      refine ec_if_neB (tgt := 35) hx hb hr27 d_X_turn_30 rfl (fun h30 => ?_) (fun h30 => ?_)
      · obtain ⟨i, hi, hi2, rfl⟩ := ec_ofI h8
        obtain ⟨j, hj, hj2, rfl⟩ := ec_ofI h19
        obtain ⟨k, hk, hk2, rfl⟩ := ec_ofI h30
        refine lv_aload_n hx hb d_X_turn_35 rfl (lv_at hl 0 rfl) ?_
        refine va_get (D := (dC, dI)) (ci := 4) (v := .ref (a 2)) (C := R_X) (T := T_X) (N := 5) hx hb htb in_X hown hK hP 0 rfl rfl 1 (by decide) (htb _ wd_114) (fun _ h9 => h9) rfl d_X_turn_36 ?_
        refine lv_iload_n hx hb d_X_turn_39 rfl (lv_at hl 1 rfl) ?_
        refine lv_iload_n hx hb d_X_turn_40 rfl (lv_at hl 2 rfl) ?_
        refine lv_iload_n hx hb d_X_turn_41 rfl (lv_at hl 3 rfl) ?_
        refine ec_vSi (C := "ExactMesh$Points") (ci := 0) (q := (R_P, T_P, 3)) (q0 := 2) (As := [.int (nI i), .int (nI j), .int (nI k)]) (rest := []) ⟨hx, hb, hml, hown, htb⟩ (c_P_sideOfLine l dC dI a cI cZ cJ pn px py ln lf lt lr sn sf st sr th hn qx qy mn mc mk mo mr rest i j k g12 gN (by omega) (by omega) (by omega)) kv_P_sideOfLine hK hP rfl rfl rfl wd_218 ⟨Nat.le_of_ble_eq_true rfl, Nat.le_of_ble_eq_true rfl⟩ ⟨rfl, rfl⟩ rfl hl.1 rfl (Nat.le_of_ble_eq_true rfl) d_X_turn_42 ⟨Nat.zero_le _, Nat.zero_le _⟩ (fun r42 hr42 => ?_)
        replace hr42 : r42 = ec_sgn (ge_ori (ec_P px py i) (ec_P px py j) (ec_P px py k)) := hr42
        subst hr42
        exact W.iret hx hb hr (fun tS ht hW => ⟨_, rfl, (ec_turF_yes g12 hi hj hk).symm, ht⟩) (fun _ h => nomatch h) d_X_turn_45
      · refine lv_iconst (v := nI 2) hx hb d_X_turn_33 (by decide) ?_
        exact W.iret hx hb hr (fun tS ht hW => ⟨_, rfl, (ec_turF_no (fun q => h30 q.2.2)), ht⟩) (fun _ h => nomatch h) d_X_turn_34

set_option maxRecDepth 100000 in
set_option maxHeartbeats 4000000 in
theorem c_X_inCircle (l : Launch) (dC : Nat → ClassId) (dI : Nat → Nat → Nat) (a : Nat → Nat) (cI cZ cJ : ClassId) (pn : Nat) (px : Nat → Int32) (py : Nat → Int32) (ln : Nat) (lf : Nat → Nat) (lt : Nat → Nat) (lr : Nat → Nat) (sn : Nat) (sf : Nat → Nat) (st : Nat → Nat) (sr : Nat → Nat) (th : Nat → Option Nat) (hn : Nat) (qx : Nat → Int32) (qy : Nat → Int32) (mn : Nat) (mc : Nat → Nat) (mk : Nat → Prop) (mo : Nat → Option Nat) (mr : Nat → Nat) (rest : va_W) (v : Int32) (w : Int32) (z : Int32) (d : Int32) (gS : ec_SI pn px py ln lf lt lr) : Met l y_X_inCircle (Cond.code y_X_inCircle b_X_inCircle 6 (some .int) :: ec_tbl) ({ frames := 3, cells := 0, slots := 0, locals := 84 }) (va_Pc [.ref (a 0), .int v, .int w, .int z, .int d] (fun U => va_P (dC, dI) vwCl (wX a cI cZ cJ pn px py ln lf lt lr sn sf st sr th hn qx qy mn mc mk mo mr ++ rest) U.heap ∧ va_K (dC, dI) vwCl (ec_tys cI cZ cJ) U)) (vp_Si (fun r : Int32 => r = ec_cirF pn px py v w z d)) 0 0 (fun _ => False) := by
  refine Met.ofW (cc := b_X_inCircle) (maxL := 6) (ret := (some .int)) (by decide) rfl ?_
  intro p e s m args below meth c s₁ B hml hv0
  obtain ⟨rfl, hP, hK⟩ := hv0
  have hx := B.exec
  have hb := B.bytes
  have hr := B.returns
  have hts := atoms_spec (ws := (Cond.code y_X_inCircle b_X_inCircle 6 (some .int) :: ec_tbl)) B.pre
  have htb : ∀ w ∈ ec_tbl, w.before _ s = true := fun w h => hts w (List.mem_cons_of_mem _ h)
  clear hts
  have hown : s.vm.findClass "ExactMesh" = some m.cls := findClass_of_methodNamed B.named
  have hlocks := B.notSynchronized
  have hl := lv_entry ([.ref (a 0), .int v, .int w, .int z, .int d]) (n := 6) (Nat.le_of_ble_eq_true rfl)
  rw [lg_entry_eq]
  generalize (lg_sl ([.ref (a 0), .int v, .int w, .int z, .int d]) ++ List.replicate (6 - (lg_sl ([.ref (a 0), .int v, .int w, .int z, .int d])).length) Slot.unset).toArray = ls at hl ⊢
  replace hl : lv_has ls 6 [(0, .ref (a 0)), (1, .int v), (2, .int w), (3, .int z), (4, .int d)] := hl
  have g12 := gS.1
  have gN := gS.2.1
  have gln := gS.2.2.2.1
  refine lv_aload_n hx hb d_X_inCircle_0 rfl (lv_at hl 0 rfl) ?_
  refine va_get (D := (dC, dI)) (ci := 4) (v := .ref (a 2)) (C := R_X) (T := T_X) (N := 5) hx hb htb in_X hown hK hP 0 rfl rfl 1 (by decide) (htb _ wd_114) (fun _ h9 => h9) rfl d_X_inCircle_1 ?_
  refine lv_iload_n hx hb d_X_inCircle_4 rfl (lv_at hl 1 rfl) ?_
  refine ec_vSi (C := "ExactMesh$Points") (ci := 0) (q := (R_P, T_P, 3)) (q0 := 2) (As := [.int v]) (rest := []) ⟨hx, hb, hml, hown, htb⟩ (c_P_has l dC dI a cI cZ cJ pn px py ln lf lt lr sn sf st sr th hn qx qy mn mc mk mo mr rest v g12) kv_P_has hK hP rfl rfl rfl wd_173 ⟨Nat.le_of_ble_eq_true rfl, Nat.le_of_ble_eq_true rfl⟩ ⟨rfl, rfl⟩ rfl hl.1 rfl (Nat.le_of_ble_eq_true rfl) d_X_inCircle_5 ⟨Nat.zero_le _, Nat.zero_le _⟩ (fun r5 hr5 => ?_)
  replace hr5 : ec_isB r5 (0 ≤ v.toInt ∧ v.toInt < pn) := hr5
  refine ec_if_eqB (tgt := 45) hx hb hr5 d_X_inCircle_8 rfl (fun h8 => ?_) (fun h8 => ?_)
  · refine lv_iconst (v := nI 2) hx hb d_X_inCircle_45 (by decide) ?_
    exact W.iret hx hb hr (fun tS ht hW => ⟨_, rfl, (ec_cirF_no (fun q => h8 q.1)), ht⟩) (fun _ h => nomatch h) d_X_inCircle_46
  · refine lv_aload_n hx hb d_X_inCircle_11 rfl (lv_at hl 0 rfl) ?_
    refine va_get (D := (dC, dI)) (ci := 4) (v := .ref (a 2)) (C := R_X) (T := T_X) (N := 5) hx hb htb in_X hown hK hP 0 rfl rfl 1 (by decide) (htb _ wd_114) (fun _ h9 => h9) rfl d_X_inCircle_12 ?_
    refine lv_iload_n hx hb d_X_inCircle_15 rfl (lv_at hl 2 rfl) ?_
    refine ec_vSi (C := "ExactMesh$Points") (ci := 0) (q := (R_P, T_P, 3)) (q0 := 2) (As := [.int w]) (rest := []) ⟨hx, hb, hml, hown, htb⟩ (c_P_has l dC dI a cI cZ cJ pn px py ln lf lt lr sn sf st sr th hn qx qy mn mc mk mo mr rest w g12) kv_P_has hK hP rfl rfl rfl wd_173 ⟨Nat.le_of_ble_eq_true rfl, Nat.le_of_ble_eq_true rfl⟩ ⟨rfl, rfl⟩ rfl hl.1 rfl (Nat.le_of_ble_eq_true rfl) d_X_inCircle_16 ⟨Nat.zero_le _, Nat.zero_le _⟩ (fun r16 hr16 => ?_)
    replace hr16 : ec_isB r16 (0 ≤ w.toInt ∧ w.toInt < pn) := hr16
    refine ec_if_eqB (tgt := 45) hx hb hr16 d_X_inCircle_19 rfl (fun h19 => ?_) (fun h19 => ?_)
    · refine lv_iconst (v := nI 2) hx hb d_X_inCircle_45 (by decide) ?_
      exact W.iret hx hb hr (fun tS ht hW => ⟨_, rfl, (ec_cirF_no (fun q => h19 q.2.1)), ht⟩) (fun _ h => nomatch h) d_X_inCircle_46
    · refine lv_aload_n hx hb d_X_inCircle_22 rfl (lv_at hl 0 rfl) ?_
      refine va_get (D := (dC, dI)) (ci := 4) (v := .ref (a 2)) (C := R_X) (T := T_X) (N := 5) hx hb htb in_X hown hK hP 0 rfl rfl 1 (by decide) (htb _ wd_114) (fun _ h9 => h9) rfl d_X_inCircle_23 ?_
      refine lv_iload_n hx hb d_X_inCircle_26 rfl (lv_at hl 3 rfl) ?_
      refine ec_vSi (C := "ExactMesh$Points") (ci := 0) (q := (R_P, T_P, 3)) (q0 := 2) (As := [.int z]) (rest := []) ⟨hx, hb, hml, hown, htb⟩ (c_P_has l dC dI a cI cZ cJ pn px py ln lf lt lr sn sf st sr th hn qx qy mn mc mk mo mr rest z g12) kv_P_has hK hP rfl rfl rfl wd_173 ⟨Nat.le_of_ble_eq_true rfl, Nat.le_of_ble_eq_true rfl⟩ ⟨rfl, rfl⟩ rfl hl.1 rfl (Nat.le_of_ble_eq_true rfl) d_X_inCircle_27 ⟨Nat.zero_le _, Nat.zero_le _⟩ (fun r27 hr27 => ?_)
      replace hr27 : ec_isB r27 (0 ≤ z.toInt ∧ z.toInt < pn) := hr27
      refine ec_if_eqB (tgt := 45) hx hb hr27 d_X_inCircle_30 rfl (fun h30 => ?_) (fun h30 => ?_)
      · refine lv_iconst (v := nI 2) hx hb d_X_inCircle_45 (by decide) ?_
        exact W.iret hx hb hr (fun tS ht hW => ⟨_, rfl, (ec_cirF_no (fun q => h30 q.2.2.1)), ht⟩) (fun _ h => nomatch h) d_X_inCircle_46
      · refine lv_aload_n hx hb d_X_inCircle_33 rfl (lv_at hl 0 rfl) ?_
        refine va_get (D := (dC, dI)) (ci := 4) (v := .ref (a 2)) (C := R_X) (T := T_X) (N := 5) hx hb htb in_X hown hK hP 0 rfl rfl 1 (by decide) (htb _ wd_114) (fun _ h9 => h9) rfl d_X_inCircle_34 ?_
        refine lv_iload hx hb d_X_inCircle_37 (lv_at hl 4 rfl) ?_
        refine ec_vSi (C := "ExactMesh$Points") (ci := 0) (q := (R_P, T_P, 3)) (q0 := 2) (As := [.int d]) (rest := []) ⟨hx, hb, hml, hown, htb⟩ (c_P_has l dC dI a cI cZ cJ pn px py ln lf lt lr sn sf st sr th hn qx qy mn mc mk mo mr rest d g12) kv_P_has hK hP rfl rfl rfl wd_173 ⟨Nat.le_of_ble_eq_true rfl, Nat.le_of_ble_eq_true rfl⟩ ⟨rfl, rfl⟩ rfl hl.1 rfl (Nat.le_of_ble_eq_true rfl) d_X_inCircle_39 ⟨Nat.zero_le _, Nat.zero_le _⟩ (fun r39 hr39 => ?_)
        replace hr39 : ec_isB r39 (0 ≤ d.toInt ∧ d.toInt < pn) := hr39
        refine ec_if_neB (tgt := 47) hx hb hr39 d_X_inCircle_42 rfl (fun h42 => ?_) (fun h42 => ?_)
        · obtain ⟨i, hi, hi2, rfl⟩ := ec_ofI h8
          obtain ⟨j, hj, hj2, rfl⟩ := ec_ofI h19
          obtain ⟨k, hk, hk2, rfl⟩ := ec_ofI h30
          obtain ⟨i4, hi4, hi42, rfl⟩ := ec_ofI h42
          refine lv_aload_n hx hb d_X_inCircle_47 rfl (lv_at hl 0 rfl) ?_
          refine va_get (D := (dC, dI)) (ci := 4) (v := .ref (a 2)) (C := R_X) (T := T_X) (N := 5) hx hb htb in_X hown hK hP 0 rfl rfl 1 (by decide) (htb _ wd_114) (fun _ h9 => h9) rfl d_X_inCircle_48 ?_
          refine lv_iload_n hx hb d_X_inCircle_51 rfl (lv_at hl 1 rfl) ?_
          refine lv_iload_n hx hb d_X_inCircle_52 rfl (lv_at hl 2 rfl) ?_
          refine lv_iload_n hx hb d_X_inCircle_53 rfl (lv_at hl 3 rfl) ?_
          refine ec_vSi (C := "ExactMesh$Points") (ci := 0) (q := (R_P, T_P, 3)) (q0 := 2) (As := [.int (nI i), .int (nI j), .int (nI k)]) (rest := []) ⟨hx, hb, hml, hown, htb⟩ (c_P_sideOfLine l dC dI a cI cZ cJ pn px py ln lf lt lr sn sf st sr th hn qx qy mn mc mk mo mr rest i j k g12 gN (by omega) (by omega) (by omega)) kv_P_sideOfLine hK hP rfl rfl rfl wd_218 ⟨Nat.le_of_ble_eq_true rfl, Nat.le_of_ble_eq_true rfl⟩ ⟨rfl, rfl⟩ rfl hl.1 rfl (Nat.le_of_ble_eq_true rfl) d_X_inCircle_54 ⟨Nat.zero_le _, Nat.zero_le _⟩ (fun r54 hr54 => ?_)
          replace hr54 : r54 = ec_sgn (ge_ori (ec_P px py i) (ec_P px py j) (ec_P px py k)) := hr54
          subst hr54
          refine lv_topi (fun v1 e_v1 => ?_)
          refine lv_istore hx hb d_X_inCircle_57 hl (by decide) rfl (fun ls hl => ?_)
          replace hl : lv_has ls 6 [(5, .int v1), (0, .ref (a 0)), (1, .int (nI i)), (2, .int (nI j)), (3, .int (nI k)), (4, .int (nI i4))] := hl
          refine lv_iload hx hb d_X_inCircle_59 (lv_at hl 0 rfl) ?_
          refine lv_if_ne (tgt := 68) hx hb d_X_inCircle_61 rfl (fun h61 => ?_) (fun h61 => ?_)
          · refine lv_iload hx hb d_X_inCircle_68 (lv_at hl 0 rfl) ?_
            refine lv_aload_n hx hb d_X_inCircle_70 rfl (lv_at hl 1 rfl) ?_
            refine va_get (D := (dC, dI)) (ci := 4) (v := .ref (a 2)) (C := R_X) (T := T_X) (N := 5) hx hb htb in_X hown hK hP 0 rfl rfl 1 (by decide) (htb _ wd_114) (fun _ h9 => h9) rfl d_X_inCircle_71 ?_
            refine lv_iload_n hx hb d_X_inCircle_74 rfl (lv_at hl 2 rfl) ?_
            refine lv_iload_n hx hb d_X_inCircle_75 rfl (lv_at hl 3 rfl) ?_
            refine lv_iload_n hx hb d_X_inCircle_76 rfl (lv_at hl 4 rfl) ?_
            refine lv_iload hx hb d_X_inCircle_77 (lv_at hl 5 rfl) ?_
            refine ec_vSi (C := "ExactMesh$Points") (ci := 0) (q := (R_P, T_P, 3)) (q0 := 2) (As := [.int (nI i), .int (nI j), .int (nI k), .int (nI i4)]) (rest := [.int v1]) ⟨hx, hb, hml, hown, htb⟩ (c_P_sideOfCircle l dC dI a cI cZ cJ pn px py ln lf lt lr sn sf st sr th hn qx qy mn mc mk mo mr rest i j k i4 g12 gN (by omega) (by omega) (by omega) (by omega)) kv_P_sideOfCircle hK hP rfl rfl rfl wd_223 ⟨Nat.le_of_ble_eq_true rfl, Nat.le_of_ble_eq_true rfl⟩ ⟨rfl, rfl⟩ rfl hl.1 rfl (Nat.le_of_ble_eq_true rfl) d_X_inCircle_79 ⟨Nat.zero_le _, Nat.zero_le _⟩ (fun r79 hr79 => ?_)
            replace hr79 : r79 = ec_sgn (ec_circ px py i j k i4) := hr79
            subst hr79
            refine lv_imul hx hb d_X_inCircle_82 ?_
            exact W.iret hx hb hr (fun tS ht hW => ⟨_, rfl, (by rw [ec_cirF_yes g12 hi hj hk hi4 (fun q => h61 (by rw [e_v1]; exact (ec_sgn_eq _).mpr q)), e_v1]), ht⟩) (fun _ h => nomatch h) d_X_inCircle_83
          · refine lv_iconst (v := nI 2) hx hb d_X_inCircle_64 (by decide) ?_
            refine lv_goto (tgt := 83) hx hb d_X_inCircle_65 rfl ?_
            exact W.iret hx hb hr (fun tS ht hW => ⟨_, rfl, (ec_cirF_zero g12 hi hj hk ((ec_sgn_eq _).mp (by rw [← e_v1]; exact h61))), ht⟩) (fun _ h => nomatch h) d_X_inCircle_83
        · refine lv_iconst (v := nI 2) hx hb d_X_inCircle_45 (by decide) ?_
          exact W.iret hx hb hr (fun tS ht hW => ⟨_, rfl, (ec_cirF_no (fun q => h42 q.2.2.2)), ht⟩) (fun _ h => nomatch h) d_X_inCircle_46

set_option maxRecDepth 100000 in
set_option maxHeartbeats 4000000 in
theorem c_X_build (l : Launch) (dC : Nat → ClassId) (dI : Nat → Nat → Nat) (a : Nat → Nat) (cI cZ cJ : ClassId) (pn : Nat) (px : Nat → Int32) (py : Nat → Int32) (ln : Nat) (lf : Nat → Nat) (lt : Nat → Nat) (lr : Nat → Nat) (sn : Nat) (sf : Nat → Nat) (st : Nat → Nat) (sr : Nat → Nat) (th : Nat → Option Nat) (hn : Nat) (qx : Nat → Int32) (qy : Nat → Int32) (mn : Nat) (mc : Nat → Nat) (mk : Nat → Prop) (mo : Nat → Option Nat) (mr : Nat → Nat) (rest : va_W) (bh : Int32) (bo : Int32) (P_bh : Prop) (P_bo : Prop) (gS : ec_SI pn px py ln lf lt lr) (g3 : hn ≤ 3) (h_bh : ec_isB bh P_bh) (h_bo : ec_isB bo P_bo) (A : Nat → Prop) (hD : va_D A (wX a cI cZ cJ pn px py ln lf lt lr sn sf st sr th hn qx qy mn mc mk mo mr ++ rest)) : Met l y_X_build (Cond.code y_X_build b_X_build 3 (some .int) :: ec_tbl) ({ frames := 6, cells := 0, slots := 0, locals := 154 }) (va_Pc [.ref (a 0), .int bh, .int bo] (fun U => va_P (dC, dI) vwCl (wX a cI cZ cJ pn px py ln lf lt lr sn sf st sr th hn qx qy mn mc mk mo mr ++ rest) U.heap ∧ va_K (dC, dI) vwCl (ec_tys cI cZ cJ) U)) (va_Qi (fun (r : Int32) (u : Nat × (Nat → Nat) × (Nat → Nat) × (Nat → Nat) × (Nat → Option Nat) × Nat × (Nat → Nat) × (Nat → Option Nat) × (Nat → Prop) × (Nat → Nat)) => r = nI u.2.2.2.2.2.1 ∧ ec_BS pn px py ln lf lt hn qx qy P_bh P_bo u.2.2.2.2.2.1 u.2.2.2.2.2.2.1 ∧ ec_MI pn u.2.2.2.2.2.1 u.2.2.2.2.2.2.1 u.2.2.2.2.2.2.2.1 u.2.2.2.2.2.2.2.2.2 ∧ ∀ a b, a < 12 → b < 12 → ((u.2.2.2.2.2.2.2.2.2 a).testBit b = true ↔ ec_E ln lf lt a b)) (fun u t => va_P (dC, dI) vwCl (wX a cI cZ cJ pn px py ln lf lt lr u.1 u.2.1 u.2.2.1 u.2.2.2.1 u.2.2.2.2.1 hn qx qy u.2.2.2.2.2.1 u.2.2.2.2.2.2.1 u.2.2.2.2.2.2.2.2.1 u.2.2.2.2.2.2.2.1 u.2.2.2.2.2.2.2.2.2 ++ rest) t.heap) A) 0 0 A := by
  refine Met.ofW (cc := b_X_build) (maxL := 3) (ret := (some .int)) (by decide) rfl ?_
  intro p e s m args below meth c s₁ B hml hv0
  obtain ⟨rfl, hP, hK⟩ := hv0
  have hx := B.exec
  have hb := B.bytes
  have hr := B.returns
  have hts := atoms_spec (ws := (Cond.code y_X_build b_X_build 3 (some .int) :: ec_tbl)) B.pre
  have htb : ∀ w ∈ ec_tbl, w.before _ s = true := fun w h => hts w (List.mem_cons_of_mem _ h)
  clear hts
  have hown : s.vm.findClass "ExactMesh" = some m.cls := findClass_of_methodNamed B.named
  have hlocks := B.notSynchronized
  have hl := lv_entry ([.ref (a 0), .int bh, .int bo]) (n := 3) (Nat.le_of_ble_eq_true rfl)
  rw [lg_entry_eq]
  generalize (lg_sl ([.ref (a 0), .int bh, .int bo]) ++ List.replicate (3 - (lg_sl ([.ref (a 0), .int bh, .int bo])).length) Slot.unset).toArray = ls at hl ⊢
  replace hl : lv_has ls 3 [(0, .ref (a 0)), (1, .int bh), (2, .int bo)] := hl
  refine ec_start (fun H locs hH hlocs => ?_)
  replace hP : va_P (dC, dI) vwCl (wX a cI cZ cJ pn px py ln lf lt lr sn sf st sr th hn qx qy mn mc mk mo mr ++ rest) H := by rw [hH]; exact hP
  have hS : va_S A s.heap H locs := by rw [hH, hlocs]; exact va_S.rf
  clear hH hlocs
  have g12 := gS.1
  have gN := gS.2.1
  have gln := gS.2.2.2.1
  refine lv_aload_n hx hb d_X_build_0 rfl (lv_at hl 0 rfl) ?_
  refine va_get (D := (dC, dI)) (ci := 4) (v := .ref (a 1)) (C := R_X) (T := T_X) (N := 5) hx hb htb in_X hown hK hP 0 rfl rfl 0 (by decide) (htb _ wd_113) (fun _ h9 => h9) rfl d_X_build_1 ?_
  refine ec_vQv (C := "ExactMesh$FullMesh") (ci := 2) (q := (R_F, T_F, 4)) (q0 := 1) (As := []) (rest := []) ⟨hx, hb, hml, hown, htb⟩ (c_F_drawSides l dC dI a cI cZ cJ pn px py ln lf lt lr sn sf st sr th hn qx qy mn mc mk mo mr rest gS A hD) kv_F_drawSides hK hP rfl rfl rfl hS wd_249 ⟨Nat.le_of_ble_eq_true rfl, Nat.le_of_ble_eq_true rfl⟩ ⟨rfl, rfl⟩ rfl hl.1 rfl (Nat.le_of_ble_eq_true rfl) d_X_build_4 ⟨Nat.zero_le _, Nat.zero_le _⟩ (fun ur4 H locs hr4 hP hS => ?_)
  replace hr4 : ec_PL pn px py (ec_E ln lf lt) ur4.1 ur4.2.1 ur4.2.2.1 ur4.2.2.2 := hr4
  replace hP : va_P (dC, dI) vwCl (wX a cI cZ cJ pn px py ln lf lt lr ur4.1 ur4.2.1 ur4.2.2.1 ur4.2.2.2 th hn qx qy mn mc mk mo mr ++ rest) H := hP
  replace hD : va_D A (wX a cI cZ cJ pn px py ln lf lt lr ur4.1 ur4.2.1 ur4.2.2.1 ur4.2.2.2 th hn qx qy mn mc mk mo mr ++ rest) := ec_Dk hD rfl
  refine lv_aload_n hx hb d_X_build_7 rfl (lv_at hl 0 rfl) ?_
  refine va_get (D := (dC, dI)) (ci := 4) (v := .ref (a 1)) (C := R_X) (T := T_X) (N := 5) hx hb htb in_X hown hK hP 0 rfl rfl 0 (by decide) (htb _ wd_113) (fun _ h9 => h9) rfl d_X_build_8 ?_
  refine ec_vQv (C := "ExactMesh$FullMesh") (ci := 2) (q := (R_F, T_F, 4)) (q0 := 1) (As := []) (rest := []) ⟨hx, hb, hml, hown, htb⟩ (c_F_findTriangles l dC dI a cI cZ cJ pn px py ln lf lt lr ur4.1 ur4.2.1 ur4.2.2.1 ur4.2.2.2 th hn qx qy mn mc mk mo mr rest gS hr4 A hD) kv_F_findTriangles hK hP rfl rfl rfl hS wd_273 ⟨Nat.le_of_ble_eq_true rfl, Nat.le_of_ble_eq_true rfl⟩ ⟨rfl, rfl⟩ rfl hl.1 rfl (Nat.le_of_ble_eq_true rfl) d_X_build_11 ⟨Nat.zero_le _, Nat.zero_le _⟩ (fun ur11 H locs hr11 hP hS => ?_)
  replace hr11 : ge_TF (ec_F ur11) = ge_TE pn (ec_P px py) (ec_E ur4.1 ur4.2.1 ur4.2.2.1) := hr11
  replace hP : va_P (dC, dI) vwCl (wX a cI cZ cJ pn px py ln lf lt lr ur4.1 ur4.2.1 ur4.2.2.1 ur4.2.2.2 ur11 hn qx qy mn mc mk mo mr ++ rest) H := hP
  replace hD : va_D A (wX a cI cZ cJ pn px py ln lf lt lr ur4.1 ur4.2.1 ur4.2.2.1 ur4.2.2.2 ur11 hn qx qy mn mc mk mo mr ++ rest) := ec_Dk hD rfl
  refine lv_aload_n hx hb d_X_build_14 rfl (lv_at hl 0 rfl) ?_
  refine va_get (D := (dC, dI)) (ci := 4) (v := .ref (a 1)) (C := R_X) (T := T_X) (N := 5) hx hb htb in_X hown hK hP 0 rfl rfl 0 (by decide) (htb _ wd_113) (fun _ h9 => h9) rfl d_X_build_15 ?_
  refine ec_vQv (C := "ExactMesh$FullMesh") (ci := 2) (q := (R_F, T_F, 4)) (q0 := 1) (As := []) (rest := []) ⟨hx, hb, hml, hown, htb⟩ (c_F_makeSidesGood l dC dI a cI cZ cJ pn px py ln lf lt lr ur4.1 ur4.2.1 ur4.2.2.1 ur4.2.2.2 ur11 hn qx qy mn mc mk mo mr rest gS (ec_GM.start gS hr4 hr11) A hD) kv_F_makeSidesGood hK hP rfl rfl rfl hS wd_299 ⟨Nat.le_of_ble_eq_true rfl, Nat.le_of_ble_eq_true rfl⟩ ⟨rfl, rfl⟩ rfl hl.1 rfl (Nat.le_of_ble_eq_true rfl) d_X_build_18 ⟨Nat.zero_le _, Nat.zero_le _⟩ (fun ur18 H locs hr18 hP hS => ?_)
  replace hr18 : ec_FM pn px py ln lf lt ur18 := hr18
  replace hP : va_P (dC, dI) vwCl (wX a cI cZ cJ pn px py ln lf lt lr ur4.1 ur4.2.1 ur4.2.2.1 ur4.2.2.2 ur18 hn qx qy mn mc mk mo mr ++ rest) H := hP
  replace hD : va_D A (wX a cI cZ cJ pn px py ln lf lt lr ur4.1 ur4.2.1 ur4.2.2.1 ur4.2.2.2 ur18 hn qx qy mn mc mk mo mr ++ rest) := ec_Dk hD rfl
  refine lv_aload_n hx hb d_X_build_21 rfl (lv_at hl 0 rfl) ?_
  refine va_get (D := (dC, dI)) (ci := 4) (v := .ref (a 17)) (C := R_X) (T := T_X) (N := 5) hx hb htb in_X hown hK hP 0 rfl rfl 4 (by decide) (htb _ wd_117) (fun _ h9 => h9) rfl d_X_build_22 ?_
  refine lv_aload_n hx hb d_X_build_25 rfl (lv_at hl 0 rfl) ?_
  refine va_get (D := (dC, dI)) (ci := 4) (v := .ref (a 1)) (C := R_X) (T := T_X) (N := 5) hx hb htb in_X hown hK hP 0 rfl rfl 0 (by decide) (htb _ wd_113) (fun _ h9 => h9) rfl d_X_build_26 ?_
  refine ec_vQv (C := "ExactMesh$CarvedMesh") (ci := 3) (q := (R_M, T_M, 5)) (q0 := 17) (As := [.ref (a 1)]) (rest := []) ⟨hx, hb, hml, hown, htb⟩ (c_M_copyFrom l dC dI a cI cZ cJ pn px py ln lf lt lr ur4.1 ur4.2.1 ur4.2.2.1 ur4.2.2.2 ur18 hn qx qy mn mc mk mo mr rest gS hr18 A hD) kv_M_copyFrom hK hP rfl rfl rfl hS wd_321 ⟨Nat.le_of_ble_eq_true rfl, Nat.le_of_ble_eq_true rfl⟩ ⟨rfl, rfl⟩ rfl hl.1 rfl (Nat.le_of_ble_eq_true rfl) d_X_build_29 ⟨Nat.zero_le _, Nat.zero_le _⟩ (fun ur29 H locs hr29 hP hS => ?_)
  replace hr29 : ec_CM (ge_TF (ec_F ur18)) ur29.1 ur29.2.1 ur29.2.2.1 ur29.2.2.2.1 (pn * 12) ∧ ∀ i, i < 12 → ur29.2.2.2.2 i = lr i := hr29
  replace hP : va_P (dC, dI) vwCl (wX a cI cZ cJ pn px py ln lf lt lr ur4.1 ur4.2.1 ur4.2.2.1 ur4.2.2.2 ur18 hn qx qy ur29.1 ur29.2.1 ur29.2.2.2.1 ur29.2.2.1 ur29.2.2.2.2 ++ rest) H := hP
  replace hD : va_D A (wX a cI cZ cJ pn px py ln lf lt lr ur4.1 ur4.2.1 ur4.2.2.1 ur4.2.2.2 ur18 hn qx qy ur29.1 ur29.2.1 ur29.2.2.2.1 ur29.2.2.1 ur29.2.2.2.2 ++ rest) := ec_Dk hD rfl
  have gM := ec_MI_cm gS hr18 hr29.1 hr29.2
  refine lv_iload_n hx hb d_X_build_32 rfl (lv_at hl 1 rfl) ?_
  refine ec_if_eqB (tgt := 51) hx hb h_bh d_X_build_33 rfl (fun h33 => ?_) (fun h33 => ?_)
  · refine lv_iload_n hx hb d_X_build_51 rfl (lv_at hl 2 rfl) ?_
    refine ec_if_eqB (tgt := 62) hx hb h_bo d_X_build_52 rfl (fun h52 => ?_) (fun h52 => ?_)
    · refine lv_aload_n hx hb d_X_build_62 rfl (lv_at hl 0 rfl) ?_
      refine va_get (D := (dC, dI)) (ci := 4) (v := .ref (a 17)) (C := R_X) (T := T_X) (N := 5) hx hb htb in_X hown hK hP 0 rfl rfl 4 (by decide) (htb _ wd_117) (fun _ h9 => h9) rfl d_X_build_63 ?_
      refine ec_vQv (C := "ExactMesh$CarvedMesh") (ci := 3) (q := (R_M, T_M, 5)) (q0 := 17) (As := []) (rest := []) ⟨hx, hb, hml, hown, htb⟩ (c_M_spreadMarks l dC dI a cI cZ cJ pn px py ln lf lt lr ur4.1 ur4.2.1 ur4.2.2.1 ur4.2.2.2 ur18 hn qx qy ur29.1 ur29.2.1 ur29.2.2.2.1 ur29.2.2.1 ur29.2.2.2.2 rest g12 gM A hD) kv_M_spreadMarks hK hP rfl rfl rfl hS wd_367 ⟨Nat.le_of_ble_eq_true rfl, Nat.le_of_ble_eq_true rfl⟩ ⟨rfl, rfl⟩ rfl hl.1 rfl (Nat.le_of_ble_eq_true rfl) d_X_build_66 ⟨Nat.zero_le _, Nat.zero_le _⟩ (fun ur66 H locs hr66 hP hS => ?_)
      replace hr66 : ∀ x, x < ur29.1 → (ur66 x ↔ ec_Cl ur29.1 (ec_besM ur29.2.1 ur29.2.2.1 ur29.2.2.2.2) ur29.2.2.2.1 x) := hr66
      replace hP : va_P (dC, dI) vwCl (wX a cI cZ cJ pn px py ln lf lt lr ur4.1 ur4.2.1 ur4.2.2.1 ur4.2.2.2 ur18 hn qx qy ur29.1 ur29.2.1 ur66 ur29.2.2.1 ur29.2.2.2.2 ++ rest) H := hP
      replace hD : va_D A (wX a cI cZ cJ pn px py ln lf lt lr ur4.1 ur4.2.1 ur4.2.2.1 ur4.2.2.2 ur18 hn qx qy ur29.1 ur29.2.1 ur66 ur29.2.2.1 ur29.2.2.2.2 ++ rest) := ec_Dk hD rfl
      have hKP := ec_build (bh := P_bh) (bo := P_bo) (hn := hn) (qx := qx) (qy := qy) gS hr18 hr29.1 hr29.2 (Or.inr ⟨h33, rfl⟩) (Or.inr ⟨h52, rfl⟩) hr66
      refine lv_aload_n hx hb d_X_build_69 rfl (lv_at hl 0 rfl) ?_
      refine va_get (D := (dC, dI)) (ci := 4) (v := .ref (a 17)) (C := R_X) (T := T_X) (N := 5) hx hb htb in_X hown hK hP 0 rfl rfl 4 (by decide) (htb _ wd_117) (fun _ h9 => h9) rfl d_X_build_70 ?_
      refine ec_vQv (C := "ExactMesh$CarvedMesh") (ci := 3) (q := (R_M, T_M, 5)) (q0 := 17) (As := []) (rest := []) ⟨hx, hb, hml, hown, htb⟩ (c_M_dropMarked l dC dI a cI cZ cJ pn px py ln lf lt lr ur4.1 ur4.2.1 ur4.2.2.1 ur4.2.2.2 ur18 hn qx qy ur29.1 ur29.2.1 ur66 ur29.2.2.1 ur29.2.2.2.2 rest (ge_TF (ec_F ur18)) (ec_Kept (ge_TF (ec_F ur18)) (ec_E ln lf lt) (ec_Sd (ge_TF (ec_F ur18)) (ec_E ln lf lt) px py hn qx qy P_bh P_bo)) hKP A hD) kv_M_dropMarked hK hP rfl rfl rfl hS wd_375 ⟨Nat.le_of_ble_eq_true rfl, Nat.le_of_ble_eq_true rfl⟩ ⟨rfl, rfl⟩ rfl hl.1 rfl (Nat.le_of_ble_eq_true rfl) d_X_build_73 ⟨Nat.zero_le _, Nat.zero_le _⟩ (fun ur73 H locs hr73 hP hS => ?_)
      replace hr73 : ur73.1 ≤ ur29.1 ∧ ec_En (ec_Kept (ge_TF (ec_F ur18)) (ec_E ln lf lt) (ec_Sd (ge_TF (ec_F ur18)) (ec_E ln lf lt) px py hn qx qy P_bh P_bo)) ur73.1 ur73.2.1 144 ∧ ec_Ow ur73.1 ur73.2.1 ur73.2.2.1 := hr73
      replace hP : va_P (dC, dI) vwCl (wX a cI cZ cJ pn px py ln lf lt lr ur4.1 ur4.2.1 ur4.2.2.1 ur4.2.2.2 ur18 hn qx qy ur73.1 ur73.2.1 ur73.2.2.2 ur73.2.2.1 ur29.2.2.2.2 ++ rest) H := hP
      replace hD : va_D A (wX a cI cZ cJ pn px py ln lf lt lr ur4.1 ur4.2.1 ur4.2.2.1 ur4.2.2.2 ur18 hn qx qy ur73.1 ur73.2.1 ur73.2.2.2 ur73.2.2.1 ur29.2.2.2.2 ++ rest) := ec_Dk hD rfl
      refine lv_aload_n hx hb d_X_build_76 rfl (lv_at hl 0 rfl) ?_
      refine va_get (D := (dC, dI)) (ci := 4) (v := .ref (a 17)) (C := R_X) (T := T_X) (N := 5) hx hb htb in_X hown hK hP 0 rfl rfl 4 (by decide) (htb _ wd_117) (fun _ h9 => h9) rfl d_X_build_77 ?_
      refine va_getN (D := (dC, dI)) (ci := 3) (v := .int (nI ur73.1)) (C := R_M) (T := T_M) (N := 5) hx hb htb in_M hown hK hP 17 rfl rfl 4 (by decide) (htb _ wd_100) (fun _ h9 => h9) rfl d_X_build_80 ?_
      exact W.iret hx hb hr (fun tS ht hW => ⟨⟨_, (ur4.1, ur4.2.1, ur4.2.2.1, ur4.2.2.2, ur18, ur73.1, ur73.2.1, ur73.2.2.1, ur73.2.2.2, ur29.2.2.2.2), rfl, ⟨rfl, ec_built gS hr18 gM.1 hr29.2 hr73⟩, by show va_P _ _ _ tS.heap; rw [ht]; exact hP⟩, hS.F ht⟩) hS.2.2 d_X_build_83
    · refine lv_aload_n hx hb d_X_build_55 rfl (lv_at hl 0 rfl) ?_
      refine va_get (D := (dC, dI)) (ci := 4) (v := .ref (a 17)) (C := R_X) (T := T_X) (N := 5) hx hb htb in_X hown hK hP 0 rfl rfl 4 (by decide) (htb _ wd_117) (fun _ h9 => h9) rfl d_X_build_56 ?_
      refine ec_vQv (C := "ExactMesh$CarvedMesh") (ci := 3) (q := (R_M, T_M, 5)) (q0 := 17) (As := []) (rest := []) ⟨hx, hb, hml, hown, htb⟩ (c_M_markOutside l dC dI a cI cZ cJ pn px py ln lf lt lr ur4.1 ur4.2.1 ur4.2.2.1 ur4.2.2.2 ur18 hn qx qy ur29.1 ur29.2.1 ur29.2.2.2.1 ur29.2.2.1 ur29.2.2.2.2 rest g12 gM A hD) kv_M_markOutside hK hP rfl rfl rfl hS wd_355 ⟨Nat.le_of_ble_eq_true rfl, Nat.le_of_ble_eq_true rfl⟩ ⟨rfl, rfl⟩ rfl hl.1 rfl (Nat.le_of_ble_eq_true rfl) d_X_build_59 ⟨Nat.zero_le _, Nat.zero_le _⟩ (fun ur59 H locs hr59 hP hS => ?_)
      replace hr59 : ec_MO ur29.1 ur29.2.2.2.1 (ec_opens ur29.2.1 ur29.2.2.1 ur29.2.2.2.2) ur59 ur29.1 0 := hr59
      replace hP : va_P (dC, dI) vwCl (wX a cI cZ cJ pn px py ln lf lt lr ur4.1 ur4.2.1 ur4.2.2.1 ur4.2.2.2 ur18 hn qx qy ur29.1 ur29.2.1 ur59 ur29.2.2.1 ur29.2.2.2.2 ++ rest) H := hP
      replace hD : va_D A (wX a cI cZ cJ pn px py ln lf lt lr ur4.1 ur4.2.1 ur4.2.2.1 ur4.2.2.2 ur18 hn qx qy ur29.1 ur29.2.1 ur59 ur29.2.2.1 ur29.2.2.2.2 ++ rest) := ec_Dk hD rfl
      refine lv_aload_n hx hb d_X_build_62 rfl (lv_at hl 0 rfl) ?_
      refine va_get (D := (dC, dI)) (ci := 4) (v := .ref (a 17)) (C := R_X) (T := T_X) (N := 5) hx hb htb in_X hown hK hP 0 rfl rfl 4 (by decide) (htb _ wd_117) (fun _ h9 => h9) rfl d_X_build_63 ?_
      refine ec_vQv (C := "ExactMesh$CarvedMesh") (ci := 3) (q := (R_M, T_M, 5)) (q0 := 17) (As := []) (rest := []) ⟨hx, hb, hml, hown, htb⟩ (c_M_spreadMarks l dC dI a cI cZ cJ pn px py ln lf lt lr ur4.1 ur4.2.1 ur4.2.2.1 ur4.2.2.2 ur18 hn qx qy ur29.1 ur29.2.1 ur59 ur29.2.2.1 ur29.2.2.2.2 rest g12 gM A hD) kv_M_spreadMarks hK hP rfl rfl rfl hS wd_367 ⟨Nat.le_of_ble_eq_true rfl, Nat.le_of_ble_eq_true rfl⟩ ⟨rfl, rfl⟩ rfl hl.1 rfl (Nat.le_of_ble_eq_true rfl) d_X_build_66 ⟨Nat.zero_le _, Nat.zero_le _⟩ (fun ur66_1 H locs hr66_1 hP hS => ?_)
      replace hr66_1 : ∀ x, x < ur29.1 → (ur66_1 x ↔ ec_Cl ur29.1 (ec_besM ur29.2.1 ur29.2.2.1 ur29.2.2.2.2) ur59 x) := hr66_1
      replace hP : va_P (dC, dI) vwCl (wX a cI cZ cJ pn px py ln lf lt lr ur4.1 ur4.2.1 ur4.2.2.1 ur4.2.2.2 ur18 hn qx qy ur29.1 ur29.2.1 ur66_1 ur29.2.2.1 ur29.2.2.2.2 ++ rest) H := hP
      replace hD : va_D A (wX a cI cZ cJ pn px py ln lf lt lr ur4.1 ur4.2.1 ur4.2.2.1 ur4.2.2.2 ur18 hn qx qy ur29.1 ur29.2.1 ur66_1 ur29.2.2.1 ur29.2.2.2.2 ++ rest) := ec_Dk hD rfl
      have hKP := ec_build (bh := P_bh) (bo := P_bo) (hn := hn) (qx := qx) (qy := qy) gS hr18 hr29.1 hr29.2 (Or.inr ⟨h33, rfl⟩) (Or.inl ⟨h52, hr59⟩) hr66_1
      refine lv_aload_n hx hb d_X_build_69 rfl (lv_at hl 0 rfl) ?_
      refine va_get (D := (dC, dI)) (ci := 4) (v := .ref (a 17)) (C := R_X) (T := T_X) (N := 5) hx hb htb in_X hown hK hP 0 rfl rfl 4 (by decide) (htb _ wd_117) (fun _ h9 => h9) rfl d_X_build_70 ?_
      refine ec_vQv (C := "ExactMesh$CarvedMesh") (ci := 3) (q := (R_M, T_M, 5)) (q0 := 17) (As := []) (rest := []) ⟨hx, hb, hml, hown, htb⟩ (c_M_dropMarked l dC dI a cI cZ cJ pn px py ln lf lt lr ur4.1 ur4.2.1 ur4.2.2.1 ur4.2.2.2 ur18 hn qx qy ur29.1 ur29.2.1 ur66_1 ur29.2.2.1 ur29.2.2.2.2 rest (ge_TF (ec_F ur18)) (ec_Kept (ge_TF (ec_F ur18)) (ec_E ln lf lt) (ec_Sd (ge_TF (ec_F ur18)) (ec_E ln lf lt) px py hn qx qy P_bh P_bo)) hKP A hD) kv_M_dropMarked hK hP rfl rfl rfl hS wd_375 ⟨Nat.le_of_ble_eq_true rfl, Nat.le_of_ble_eq_true rfl⟩ ⟨rfl, rfl⟩ rfl hl.1 rfl (Nat.le_of_ble_eq_true rfl) d_X_build_73 ⟨Nat.zero_le _, Nat.zero_le _⟩ (fun ur73_1 H locs hr73_1 hP hS => ?_)
      replace hr73_1 : ur73_1.1 ≤ ur29.1 ∧ ec_En (ec_Kept (ge_TF (ec_F ur18)) (ec_E ln lf lt) (ec_Sd (ge_TF (ec_F ur18)) (ec_E ln lf lt) px py hn qx qy P_bh P_bo)) ur73_1.1 ur73_1.2.1 144 ∧ ec_Ow ur73_1.1 ur73_1.2.1 ur73_1.2.2.1 := hr73_1
      replace hP : va_P (dC, dI) vwCl (wX a cI cZ cJ pn px py ln lf lt lr ur4.1 ur4.2.1 ur4.2.2.1 ur4.2.2.2 ur18 hn qx qy ur73_1.1 ur73_1.2.1 ur73_1.2.2.2 ur73_1.2.2.1 ur29.2.2.2.2 ++ rest) H := hP
      replace hD : va_D A (wX a cI cZ cJ pn px py ln lf lt lr ur4.1 ur4.2.1 ur4.2.2.1 ur4.2.2.2 ur18 hn qx qy ur73_1.1 ur73_1.2.1 ur73_1.2.2.2 ur73_1.2.2.1 ur29.2.2.2.2 ++ rest) := ec_Dk hD rfl
      refine lv_aload_n hx hb d_X_build_76 rfl (lv_at hl 0 rfl) ?_
      refine va_get (D := (dC, dI)) (ci := 4) (v := .ref (a 17)) (C := R_X) (T := T_X) (N := 5) hx hb htb in_X hown hK hP 0 rfl rfl 4 (by decide) (htb _ wd_117) (fun _ h9 => h9) rfl d_X_build_77 ?_
      refine va_getN (D := (dC, dI)) (ci := 3) (v := .int (nI ur73_1.1)) (C := R_M) (T := T_M) (N := 5) hx hb htb in_M hown hK hP 17 rfl rfl 4 (by decide) (htb _ wd_100) (fun _ h9 => h9) rfl d_X_build_80 ?_
      exact W.iret hx hb hr (fun tS ht hW => ⟨⟨_, (ur4.1, ur4.2.1, ur4.2.2.1, ur4.2.2.2, ur18, ur73_1.1, ur73_1.2.1, ur73_1.2.2.1, ur73_1.2.2.2, ur29.2.2.2.2), rfl, ⟨rfl, ec_built gS hr18 gM.1 hr29.2 hr73_1⟩, by show va_P _ _ _ tS.heap; rw [ht]; exact hP⟩, hS.F ht⟩) hS.2.2 d_X_build_83
  · refine lv_aload_n hx hb d_X_build_36 rfl (lv_at hl 0 rfl) ?_
    refine va_get (D := (dC, dI)) (ci := 4) (v := .ref (a 17)) (C := R_X) (T := T_X) (N := 5) hx hb htb in_X hown hK hP 0 rfl rfl 4 (by decide) (htb _ wd_117) (fun _ h9 => h9) rfl d_X_build_37 ?_
    refine lv_aload_n hx hb d_X_build_40 rfl (lv_at hl 0 rfl) ?_
    refine va_get (D := (dC, dI)) (ci := 4) (v := .ref (a 2)) (C := R_X) (T := T_X) (N := 5) hx hb htb in_X hown hK hP 0 rfl rfl 1 (by decide) (htb _ wd_114) (fun _ h9 => h9) rfl d_X_build_41 ?_
    refine lv_aload_n hx hb d_X_build_44 rfl (lv_at hl 0 rfl) ?_
    refine va_get (D := (dC, dI)) (ci := 4) (v := .ref (a 14)) (C := R_X) (T := T_X) (N := 5) hx hb htb in_X hown hK hP 0 rfl rfl 3 (by decide) (htb _ wd_116) (fun _ h9 => h9) rfl d_X_build_45 ?_
    refine ec_vQv (C := "ExactMesh$CarvedMesh") (ci := 3) (q := (R_M, T_M, 5)) (q0 := 17) (As := [.ref (a 2), .ref (a 14)]) (rest := []) ⟨hx, hb, hml, hown, htb⟩ (c_M_markHoles l dC dI a cI cZ cJ pn px py ln lf lt lr ur4.1 ur4.2.1 ur4.2.2.1 ur4.2.2.2 ur18 hn qx qy ur29.1 ur29.2.1 ur29.2.2.2.1 ur29.2.2.1 ur29.2.2.2.2 rest g12 gN g3 gM A hD) kv_M_markHoles hK hP rfl rfl rfl hS wd_338 ⟨Nat.le_of_ble_eq_true rfl, Nat.le_of_ble_eq_true rfl⟩ ⟨rfl, rfl⟩ rfl hl.1 rfl (Nat.le_of_ble_eq_true rfl) d_X_build_48 ⟨Nat.zero_le _, Nat.zero_le _⟩ (fun ur48 H locs hr48 hP hS => ?_)
    replace hr48 : ec_MH ur29.1 ur29.2.2.2.1 (fun ur48 x => ec_hold px py ur29.2.1 ur48 (qx x) (qy x)) ur48 hn 0 := hr48
    replace hP : va_P (dC, dI) vwCl (wX a cI cZ cJ pn px py ln lf lt lr ur4.1 ur4.2.1 ur4.2.2.1 ur4.2.2.2 ur18 hn qx qy ur29.1 ur29.2.1 ur48 ur29.2.2.1 ur29.2.2.2.2 ++ rest) H := hP
    replace hD : va_D A (wX a cI cZ cJ pn px py ln lf lt lr ur4.1 ur4.2.1 ur4.2.2.1 ur4.2.2.2 ur18 hn qx qy ur29.1 ur29.2.1 ur48 ur29.2.2.1 ur29.2.2.2.2 ++ rest) := ec_Dk hD rfl
    refine lv_iload_n hx hb d_X_build_51 rfl (lv_at hl 2 rfl) ?_
    refine ec_if_eqB (tgt := 62) hx hb h_bo d_X_build_52 rfl (fun h52_1 => ?_) (fun h52_1 => ?_)
    · refine lv_aload_n hx hb d_X_build_62 rfl (lv_at hl 0 rfl) ?_
      refine va_get (D := (dC, dI)) (ci := 4) (v := .ref (a 17)) (C := R_X) (T := T_X) (N := 5) hx hb htb in_X hown hK hP 0 rfl rfl 4 (by decide) (htb _ wd_117) (fun _ h9 => h9) rfl d_X_build_63 ?_
      refine ec_vQv (C := "ExactMesh$CarvedMesh") (ci := 3) (q := (R_M, T_M, 5)) (q0 := 17) (As := []) (rest := []) ⟨hx, hb, hml, hown, htb⟩ (c_M_spreadMarks l dC dI a cI cZ cJ pn px py ln lf lt lr ur4.1 ur4.2.1 ur4.2.2.1 ur4.2.2.2 ur18 hn qx qy ur29.1 ur29.2.1 ur48 ur29.2.2.1 ur29.2.2.2.2 rest g12 gM A hD) kv_M_spreadMarks hK hP rfl rfl rfl hS wd_367 ⟨Nat.le_of_ble_eq_true rfl, Nat.le_of_ble_eq_true rfl⟩ ⟨rfl, rfl⟩ rfl hl.1 rfl (Nat.le_of_ble_eq_true rfl) d_X_build_66 ⟨Nat.zero_le _, Nat.zero_le _⟩ (fun ur66_2 H locs hr66_2 hP hS => ?_)
      replace hr66_2 : ∀ x, x < ur29.1 → (ur66_2 x ↔ ec_Cl ur29.1 (ec_besM ur29.2.1 ur29.2.2.1 ur29.2.2.2.2) ur48 x) := hr66_2
      replace hP : va_P (dC, dI) vwCl (wX a cI cZ cJ pn px py ln lf lt lr ur4.1 ur4.2.1 ur4.2.2.1 ur4.2.2.2 ur18 hn qx qy ur29.1 ur29.2.1 ur66_2 ur29.2.2.1 ur29.2.2.2.2 ++ rest) H := hP
      replace hD : va_D A (wX a cI cZ cJ pn px py ln lf lt lr ur4.1 ur4.2.1 ur4.2.2.1 ur4.2.2.2 ur18 hn qx qy ur29.1 ur29.2.1 ur66_2 ur29.2.2.1 ur29.2.2.2.2 ++ rest) := ec_Dk hD rfl
      have hKP := ec_build (bh := P_bh) (bo := P_bo) (hn := hn) (qx := qx) (qy := qy) gS hr18 hr29.1 hr29.2 (Or.inl ⟨h33, hr48⟩) (Or.inr ⟨h52_1, rfl⟩) hr66_2
      refine lv_aload_n hx hb d_X_build_69 rfl (lv_at hl 0 rfl) ?_
      refine va_get (D := (dC, dI)) (ci := 4) (v := .ref (a 17)) (C := R_X) (T := T_X) (N := 5) hx hb htb in_X hown hK hP 0 rfl rfl 4 (by decide) (htb _ wd_117) (fun _ h9 => h9) rfl d_X_build_70 ?_
      refine ec_vQv (C := "ExactMesh$CarvedMesh") (ci := 3) (q := (R_M, T_M, 5)) (q0 := 17) (As := []) (rest := []) ⟨hx, hb, hml, hown, htb⟩ (c_M_dropMarked l dC dI a cI cZ cJ pn px py ln lf lt lr ur4.1 ur4.2.1 ur4.2.2.1 ur4.2.2.2 ur18 hn qx qy ur29.1 ur29.2.1 ur66_2 ur29.2.2.1 ur29.2.2.2.2 rest (ge_TF (ec_F ur18)) (ec_Kept (ge_TF (ec_F ur18)) (ec_E ln lf lt) (ec_Sd (ge_TF (ec_F ur18)) (ec_E ln lf lt) px py hn qx qy P_bh P_bo)) hKP A hD) kv_M_dropMarked hK hP rfl rfl rfl hS wd_375 ⟨Nat.le_of_ble_eq_true rfl, Nat.le_of_ble_eq_true rfl⟩ ⟨rfl, rfl⟩ rfl hl.1 rfl (Nat.le_of_ble_eq_true rfl) d_X_build_73 ⟨Nat.zero_le _, Nat.zero_le _⟩ (fun ur73_2 H locs hr73_2 hP hS => ?_)
      replace hr73_2 : ur73_2.1 ≤ ur29.1 ∧ ec_En (ec_Kept (ge_TF (ec_F ur18)) (ec_E ln lf lt) (ec_Sd (ge_TF (ec_F ur18)) (ec_E ln lf lt) px py hn qx qy P_bh P_bo)) ur73_2.1 ur73_2.2.1 144 ∧ ec_Ow ur73_2.1 ur73_2.2.1 ur73_2.2.2.1 := hr73_2
      replace hP : va_P (dC, dI) vwCl (wX a cI cZ cJ pn px py ln lf lt lr ur4.1 ur4.2.1 ur4.2.2.1 ur4.2.2.2 ur18 hn qx qy ur73_2.1 ur73_2.2.1 ur73_2.2.2.2 ur73_2.2.2.1 ur29.2.2.2.2 ++ rest) H := hP
      replace hD : va_D A (wX a cI cZ cJ pn px py ln lf lt lr ur4.1 ur4.2.1 ur4.2.2.1 ur4.2.2.2 ur18 hn qx qy ur73_2.1 ur73_2.2.1 ur73_2.2.2.2 ur73_2.2.2.1 ur29.2.2.2.2 ++ rest) := ec_Dk hD rfl
      refine lv_aload_n hx hb d_X_build_76 rfl (lv_at hl 0 rfl) ?_
      refine va_get (D := (dC, dI)) (ci := 4) (v := .ref (a 17)) (C := R_X) (T := T_X) (N := 5) hx hb htb in_X hown hK hP 0 rfl rfl 4 (by decide) (htb _ wd_117) (fun _ h9 => h9) rfl d_X_build_77 ?_
      refine va_getN (D := (dC, dI)) (ci := 3) (v := .int (nI ur73_2.1)) (C := R_M) (T := T_M) (N := 5) hx hb htb in_M hown hK hP 17 rfl rfl 4 (by decide) (htb _ wd_100) (fun _ h9 => h9) rfl d_X_build_80 ?_
      exact W.iret hx hb hr (fun tS ht hW => ⟨⟨_, (ur4.1, ur4.2.1, ur4.2.2.1, ur4.2.2.2, ur18, ur73_2.1, ur73_2.2.1, ur73_2.2.2.1, ur73_2.2.2.2, ur29.2.2.2.2), rfl, ⟨rfl, ec_built gS hr18 gM.1 hr29.2 hr73_2⟩, by show va_P _ _ _ tS.heap; rw [ht]; exact hP⟩, hS.F ht⟩) hS.2.2 d_X_build_83
    · refine lv_aload_n hx hb d_X_build_55 rfl (lv_at hl 0 rfl) ?_
      refine va_get (D := (dC, dI)) (ci := 4) (v := .ref (a 17)) (C := R_X) (T := T_X) (N := 5) hx hb htb in_X hown hK hP 0 rfl rfl 4 (by decide) (htb _ wd_117) (fun _ h9 => h9) rfl d_X_build_56 ?_
      refine ec_vQv (C := "ExactMesh$CarvedMesh") (ci := 3) (q := (R_M, T_M, 5)) (q0 := 17) (As := []) (rest := []) ⟨hx, hb, hml, hown, htb⟩ (c_M_markOutside l dC dI a cI cZ cJ pn px py ln lf lt lr ur4.1 ur4.2.1 ur4.2.2.1 ur4.2.2.2 ur18 hn qx qy ur29.1 ur29.2.1 ur48 ur29.2.2.1 ur29.2.2.2.2 rest g12 gM A hD) kv_M_markOutside hK hP rfl rfl rfl hS wd_355 ⟨Nat.le_of_ble_eq_true rfl, Nat.le_of_ble_eq_true rfl⟩ ⟨rfl, rfl⟩ rfl hl.1 rfl (Nat.le_of_ble_eq_true rfl) d_X_build_59 ⟨Nat.zero_le _, Nat.zero_le _⟩ (fun ur59_1 H locs hr59_1 hP hS => ?_)
      replace hr59_1 : ec_MO ur29.1 ur48 (ec_opens ur29.2.1 ur29.2.2.1 ur29.2.2.2.2) ur59_1 ur29.1 0 := hr59_1
      replace hP : va_P (dC, dI) vwCl (wX a cI cZ cJ pn px py ln lf lt lr ur4.1 ur4.2.1 ur4.2.2.1 ur4.2.2.2 ur18 hn qx qy ur29.1 ur29.2.1 ur59_1 ur29.2.2.1 ur29.2.2.2.2 ++ rest) H := hP
      replace hD : va_D A (wX a cI cZ cJ pn px py ln lf lt lr ur4.1 ur4.2.1 ur4.2.2.1 ur4.2.2.2 ur18 hn qx qy ur29.1 ur29.2.1 ur59_1 ur29.2.2.1 ur29.2.2.2.2 ++ rest) := ec_Dk hD rfl
      refine lv_aload_n hx hb d_X_build_62 rfl (lv_at hl 0 rfl) ?_
      refine va_get (D := (dC, dI)) (ci := 4) (v := .ref (a 17)) (C := R_X) (T := T_X) (N := 5) hx hb htb in_X hown hK hP 0 rfl rfl 4 (by decide) (htb _ wd_117) (fun _ h9 => h9) rfl d_X_build_63 ?_
      refine ec_vQv (C := "ExactMesh$CarvedMesh") (ci := 3) (q := (R_M, T_M, 5)) (q0 := 17) (As := []) (rest := []) ⟨hx, hb, hml, hown, htb⟩ (c_M_spreadMarks l dC dI a cI cZ cJ pn px py ln lf lt lr ur4.1 ur4.2.1 ur4.2.2.1 ur4.2.2.2 ur18 hn qx qy ur29.1 ur29.2.1 ur59_1 ur29.2.2.1 ur29.2.2.2.2 rest g12 gM A hD) kv_M_spreadMarks hK hP rfl rfl rfl hS wd_367 ⟨Nat.le_of_ble_eq_true rfl, Nat.le_of_ble_eq_true rfl⟩ ⟨rfl, rfl⟩ rfl hl.1 rfl (Nat.le_of_ble_eq_true rfl) d_X_build_66 ⟨Nat.zero_le _, Nat.zero_le _⟩ (fun ur66_3 H locs hr66_3 hP hS => ?_)
      replace hr66_3 : ∀ x, x < ur29.1 → (ur66_3 x ↔ ec_Cl ur29.1 (ec_besM ur29.2.1 ur29.2.2.1 ur29.2.2.2.2) ur59_1 x) := hr66_3
      replace hP : va_P (dC, dI) vwCl (wX a cI cZ cJ pn px py ln lf lt lr ur4.1 ur4.2.1 ur4.2.2.1 ur4.2.2.2 ur18 hn qx qy ur29.1 ur29.2.1 ur66_3 ur29.2.2.1 ur29.2.2.2.2 ++ rest) H := hP
      replace hD : va_D A (wX a cI cZ cJ pn px py ln lf lt lr ur4.1 ur4.2.1 ur4.2.2.1 ur4.2.2.2 ur18 hn qx qy ur29.1 ur29.2.1 ur66_3 ur29.2.2.1 ur29.2.2.2.2 ++ rest) := ec_Dk hD rfl
      have hKP := ec_build (bh := P_bh) (bo := P_bo) (hn := hn) (qx := qx) (qy := qy) gS hr18 hr29.1 hr29.2 (Or.inl ⟨h33, hr48⟩) (Or.inl ⟨h52_1, hr59_1⟩) hr66_3
      refine lv_aload_n hx hb d_X_build_69 rfl (lv_at hl 0 rfl) ?_
      refine va_get (D := (dC, dI)) (ci := 4) (v := .ref (a 17)) (C := R_X) (T := T_X) (N := 5) hx hb htb in_X hown hK hP 0 rfl rfl 4 (by decide) (htb _ wd_117) (fun _ h9 => h9) rfl d_X_build_70 ?_
      refine ec_vQv (C := "ExactMesh$CarvedMesh") (ci := 3) (q := (R_M, T_M, 5)) (q0 := 17) (As := []) (rest := []) ⟨hx, hb, hml, hown, htb⟩ (c_M_dropMarked l dC dI a cI cZ cJ pn px py ln lf lt lr ur4.1 ur4.2.1 ur4.2.2.1 ur4.2.2.2 ur18 hn qx qy ur29.1 ur29.2.1 ur66_3 ur29.2.2.1 ur29.2.2.2.2 rest (ge_TF (ec_F ur18)) (ec_Kept (ge_TF (ec_F ur18)) (ec_E ln lf lt) (ec_Sd (ge_TF (ec_F ur18)) (ec_E ln lf lt) px py hn qx qy P_bh P_bo)) hKP A hD) kv_M_dropMarked hK hP rfl rfl rfl hS wd_375 ⟨Nat.le_of_ble_eq_true rfl, Nat.le_of_ble_eq_true rfl⟩ ⟨rfl, rfl⟩ rfl hl.1 rfl (Nat.le_of_ble_eq_true rfl) d_X_build_73 ⟨Nat.zero_le _, Nat.zero_le _⟩ (fun ur73_3 H locs hr73_3 hP hS => ?_)
      replace hr73_3 : ur73_3.1 ≤ ur29.1 ∧ ec_En (ec_Kept (ge_TF (ec_F ur18)) (ec_E ln lf lt) (ec_Sd (ge_TF (ec_F ur18)) (ec_E ln lf lt) px py hn qx qy P_bh P_bo)) ur73_3.1 ur73_3.2.1 144 ∧ ec_Ow ur73_3.1 ur73_3.2.1 ur73_3.2.2.1 := hr73_3
      replace hP : va_P (dC, dI) vwCl (wX a cI cZ cJ pn px py ln lf lt lr ur4.1 ur4.2.1 ur4.2.2.1 ur4.2.2.2 ur18 hn qx qy ur73_3.1 ur73_3.2.1 ur73_3.2.2.2 ur73_3.2.2.1 ur29.2.2.2.2 ++ rest) H := hP
      replace hD : va_D A (wX a cI cZ cJ pn px py ln lf lt lr ur4.1 ur4.2.1 ur4.2.2.1 ur4.2.2.2 ur18 hn qx qy ur73_3.1 ur73_3.2.1 ur73_3.2.2.2 ur73_3.2.2.1 ur29.2.2.2.2 ++ rest) := ec_Dk hD rfl
      refine lv_aload_n hx hb d_X_build_76 rfl (lv_at hl 0 rfl) ?_
      refine va_get (D := (dC, dI)) (ci := 4) (v := .ref (a 17)) (C := R_X) (T := T_X) (N := 5) hx hb htb in_X hown hK hP 0 rfl rfl 4 (by decide) (htb _ wd_117) (fun _ h9 => h9) rfl d_X_build_77 ?_
      refine va_getN (D := (dC, dI)) (ci := 3) (v := .int (nI ur73_3.1)) (C := R_M) (T := T_M) (N := 5) hx hb htb in_M hown hK hP 17 rfl rfl 4 (by decide) (htb _ wd_100) (fun _ h9 => h9) rfl d_X_build_80 ?_
      exact W.iret hx hb hr (fun tS ht hW => ⟨⟨_, (ur4.1, ur4.2.1, ur4.2.2.1, ur4.2.2.2, ur18, ur73_3.1, ur73_3.2.1, ur73_3.2.2.1, ur73_3.2.2.2, ur29.2.2.2.2), rfl, ⟨rfl, ec_built gS hr18 gM.1 hr29.2 hr73_3⟩, by show va_P _ _ _ tS.heap; rw [ht]; exact hP⟩, hS.F ht⟩) hS.2.2 d_X_build_83

set_option maxRecDepth 100000 in
set_option maxHeartbeats 4000000 in
theorem c_X_triangles (l : Launch) (dC : Nat → ClassId) (dI : Nat → Nat → Nat) (a : Nat → Nat) (cI cZ cJ : ClassId) (pn : Nat) (px : Nat → Int32) (py : Nat → Int32) (ln : Nat) (lf : Nat → Nat) (lt : Nat → Nat) (lr : Nat → Nat) (sn : Nat) (sf : Nat → Nat) (st : Nat → Nat) (sr : Nat → Nat) (th : Nat → Option Nat) (hn : Nat) (qx : Nat → Int32) (qy : Nat → Int32) (mn : Nat) (mc : Nat → Nat) (mk : Nat → Prop) (mo : Nat → Option Nat) (mr : Nat → Nat) (rest : va_W) : Met l y_X_triangles (Cond.code y_X_triangles b_X_triangles 1 (some .int) :: ec_tbl) ({ frames := 0, cells := 0, slots := 0, locals := 0 }) (va_Pc [.ref (a 0)] (fun U => va_P (dC, dI) vwCl (wX a cI cZ cJ pn px py ln lf lt lr sn sf st sr th hn qx qy mn mc mk mo mr ++ rest) U.heap ∧ va_K (dC, dI) vwCl (ec_tys cI cZ cJ) U)) (vp_Si (fun r : Int32 => r = nI mn)) 0 0 (fun _ => False) := by
  refine Met.ofW (cc := b_X_triangles) (maxL := 1) (ret := (some .int)) (by decide) rfl ?_
  intro p e s m args below meth c s₁ B hml hv0
  obtain ⟨rfl, hP, hK⟩ := hv0
  have hx := B.exec
  have hb := B.bytes
  have hr := B.returns
  have hts := atoms_spec (ws := (Cond.code y_X_triangles b_X_triangles 1 (some .int) :: ec_tbl)) B.pre
  have htb : ∀ w ∈ ec_tbl, w.before _ s = true := fun w h => hts w (List.mem_cons_of_mem _ h)
  clear hts
  have hown : s.vm.findClass "ExactMesh" = some m.cls := findClass_of_methodNamed B.named
  have hlocks := B.notSynchronized
  have hl := lv_entry ([.ref (a 0)]) (n := 1) (Nat.le_of_ble_eq_true rfl)
  rw [lg_entry_eq]
  generalize (lg_sl ([.ref (a 0)]) ++ List.replicate (1 - (lg_sl ([.ref (a 0)])).length) Slot.unset).toArray = ls at hl ⊢
  replace hl : lv_has ls 1 [(0, .ref (a 0))] := hl
  refine lv_aload_n hx hb d_X_triangles_0 rfl (lv_at hl 0 rfl) ?_
  refine va_get (D := (dC, dI)) (ci := 4) (v := .ref (a 17)) (C := R_X) (T := T_X) (N := 5) hx hb htb in_X hown hK hP 0 rfl rfl 4 (by decide) (htb _ wd_117) (fun _ h9 => h9) rfl d_X_triangles_1 ?_
  refine va_getN (D := (dC, dI)) (ci := 3) (v := .int (nI mn)) (C := R_M) (T := T_M) (N := 5) hx hb htb in_M hown hK hP 17 rfl rfl 4 (by decide) (htb _ wd_100) (fun _ h9 => h9) rfl d_X_triangles_4 ?_
  exact W.iret hx hb hr (fun tS ht hW => ⟨_, rfl, rfl, ht⟩) (fun _ h => nomatch h) d_X_triangles_7

set_option maxRecDepth 100000 in
set_option maxHeartbeats 4000000 in
theorem c_X_corner (l : Launch) (dC : Nat → ClassId) (dI : Nat → Nat → Nat) (a : Nat → Nat) (cI cZ cJ : ClassId) (pn : Nat) (px : Nat → Int32) (py : Nat → Int32) (ln : Nat) (lf : Nat → Nat) (lt : Nat → Nat) (lr : Nat → Nat) (sn : Nat) (sf : Nat → Nat) (st : Nat → Nat) (sr : Nat → Nat) (th : Nat → Option Nat) (hn : Nat) (qx : Nat → Int32) (qy : Nat → Int32) (mn : Nat) (mc : Nat → Nat) (mk : Nat → Prop) (mo : Nat → Option Nat) (mr : Nat → Nat) (rest : va_W) (v : Int32) (w : Int32) (gmn : mn ≤ 19) : Met l y_X_corner (Cond.code y_X_corner b_X_corner 3 (some .int) :: ec_tbl) ({ frames := 1, cells := 0, slots := 0, locals := 22 }) (va_Pc [.ref (a 0), .int v, .int w] (fun U => va_P (dC, dI) vwCl (wX a cI cZ cJ pn px py ln lf lt lr sn sf st sr th hn qx qy mn mc mk mo mr ++ rest) U.heap ∧ va_K (dC, dI) vwCl (ec_tys cI cZ cJ) U)) (vp_Si (fun r : Int32 => r = ec_corF mn mc v w)) 0 0 (fun _ => False) := by
  refine Met.ofW (cc := b_X_corner) (maxL := 3) (ret := (some .int)) (by decide) rfl ?_
  intro p e s m args below meth c s₁ B hml hv0
  obtain ⟨rfl, hP, hK⟩ := hv0
  have hx := B.exec
  have hb := B.bytes
  have hr := B.returns
  have hts := atoms_spec (ws := (Cond.code y_X_corner b_X_corner 3 (some .int) :: ec_tbl)) B.pre
  have htb : ∀ w ∈ ec_tbl, w.before _ s = true := fun w h => hts w (List.mem_cons_of_mem _ h)
  clear hts
  have hown : s.vm.findClass "ExactMesh" = some m.cls := findClass_of_methodNamed B.named
  have hlocks := B.notSynchronized
  have hl := lv_entry ([.ref (a 0), .int v, .int w]) (n := 3) (Nat.le_of_ble_eq_true rfl)
  rw [lg_entry_eq]
  generalize (lg_sl ([.ref (a 0), .int v, .int w]) ++ List.replicate (3 - (lg_sl ([.ref (a 0), .int v, .int w])).length) Slot.unset).toArray = ls at hl ⊢
  replace hl : lv_has ls 3 [(0, .ref (a 0)), (1, .int v), (2, .int w)] := hl
  refine lv_aload_n hx hb d_X_corner_0 rfl (lv_at hl 0 rfl) ?_
  refine va_get (D := (dC, dI)) (ci := 4) (v := .ref (a 17)) (C := R_X) (T := T_X) (N := 5) hx hb htb in_X hown hK hP 0 rfl rfl 4 (by decide) (htb _ wd_117) (fun _ h9 => h9) rfl d_X_corner_1 ?_
  refine lv_iload_n hx hb d_X_corner_4 rfl (lv_at hl 1 rfl) ?_
  refine lv_iload_n hx hb d_X_corner_5 rfl (lv_at hl 2 rfl) ?_
  refine ec_vSi (C := "ExactMesh$CarvedMesh") (ci := 3) (q := (R_M, T_M, 5)) (q0 := 17) (As := [.int v, .int w]) (rest := []) ⟨hx, hb, hml, hown, htb⟩ (c_M_hasSide l dC dI a cI cZ cJ pn px py ln lf lt lr sn sf st sr th hn qx qy mn mc mk mo mr rest v w gmn) kv_M_hasSide hK hP rfl rfl rfl wd_387 ⟨Nat.le_of_ble_eq_true rfl, Nat.le_of_ble_eq_true rfl⟩ ⟨rfl, rfl⟩ rfl hl.1 rfl (Nat.le_of_ble_eq_true rfl) d_X_corner_6 ⟨Nat.zero_le _, Nat.zero_le _⟩ (fun r6 hr6 => ?_)
  replace hr6 : ec_isB r6 (0 ≤ v.toInt ∧ v.toInt < mn ∧ 0 ≤ w.toInt ∧ w.toInt ≤ 2) := hr6
  refine ec_if_eqB (tgt := 24) hx hb hr6 d_X_corner_9 rfl (fun h9 => ?_) (fun h9 => ?_)
  · refine lv_iconst (v := -1) hx hb d_X_corner_24 (by decide) ?_
    exact W.iret hx hb hr (fun tS ht hW => ⟨_, rfl, (ec_corF_n h9), ht⟩) (fun _ h => nomatch h) d_X_corner_25
  · obtain ⟨t, k, htt, ht2, hk, rfl, rfl⟩ := ec_ofHC h9
    refine lv_aload_n hx hb d_X_corner_12 rfl (lv_at hl 0 rfl) ?_
    refine va_get (D := (dC, dI)) (ci := 4) (v := .ref (a 17)) (C := R_X) (T := T_X) (N := 5) hx hb htb in_X hown hK hP 0 rfl rfl 4 (by decide) (htb _ wd_117) (fun _ h9 => h9) rfl d_X_corner_13 ?_
    refine lv_iload_n hx hb d_X_corner_16 rfl (lv_at hl 1 rfl) ?_
    refine lv_iload_n hx hb d_X_corner_17 rfl (lv_at hl 2 rfl) ?_
    refine ec_vSi (C := "ExactMesh$CarvedMesh") (ci := 3) (q := (R_M, T_M, 5)) (q0 := 17) (As := [.int (nI t), .int (nI k)]) (rest := []) ⟨hx, hb, hml, hown, htb⟩ (c_M_cornerOf l dC dI a cI cZ cJ pn px py ln lf lt lr sn sf st sr th hn qx qy mn mc mk mo mr rest t k (by omega)) kv_M_cornerOf hK hP rfl rfl rfl wd_391 ⟨Nat.le_of_ble_eq_true rfl, Nat.le_of_ble_eq_true rfl⟩ ⟨rfl, rfl⟩ rfl hl.1 rfl (Nat.le_of_ble_eq_true rfl) d_X_corner_18 ⟨Nat.zero_le _, Nat.zero_le _⟩ (fun r18 hr18 => ?_)
    replace hr18 : r18 = nI (mc (3 * t + k)) := hr18
    subst hr18
    refine lv_goto (tgt := 25) hx hb d_X_corner_21 rfl ?_
    exact W.iret hx hb hr (fun tS ht hW => ⟨_, rfl, (ec_corF_y htt ht2 hk), ht⟩) (fun _ h => nomatch h) d_X_corner_25

set_option maxRecDepth 100000 in
set_option maxHeartbeats 4000000 in
theorem c_X_across (l : Launch) (dC : Nat → ClassId) (dI : Nat → Nat → Nat) (a : Nat → Nat) (cI cZ cJ : ClassId) (pn : Nat) (px : Nat → Int32) (py : Nat → Int32) (ln : Nat) (lf : Nat → Nat) (lt : Nat → Nat) (lr : Nat → Nat) (sn : Nat) (sf : Nat → Nat) (st : Nat → Nat) (sr : Nat → Nat) (th : Nat → Option Nat) (hn : Nat) (qx : Nat → Int32) (qy : Nat → Int32) (mn : Nat) (mc : Nat → Nat) (mk : Nat → Prop) (mo : Nat → Option Nat) (mr : Nat → Nat) (rest : va_W) (v : Int32) (w : Int32) (g12 : pn ≤ 12) (gM : ec_MI pn mn mc mo mr) : Met l y_X_across (Cond.code y_X_across b_X_across 3 (some .int) :: ec_tbl) ({ frames := 3, cells := 0, slots := 0, locals := 66 }) (va_Pc [.ref (a 0), .int v, .int w] (fun U => va_P (dC, dI) vwCl (wX a cI cZ cJ pn px py ln lf lt lr sn sf st sr th hn qx qy mn mc mk mo mr ++ rest) U.heap ∧ va_K (dC, dI) vwCl (ec_tys cI cZ cJ) U)) (vp_Si (fun r : Int32 => r = ec_acrF mn mc v w)) 0 0 (fun _ => False) := by
  refine Met.ofW (cc := b_X_across) (maxL := 3) (ret := (some .int)) (by decide) rfl ?_
  intro p e s m args below meth c s₁ B hml hv0
  obtain ⟨rfl, hP, hK⟩ := hv0
  have hx := B.exec
  have hb := B.bytes
  have hr := B.returns
  have hts := atoms_spec (ws := (Cond.code y_X_across b_X_across 3 (some .int) :: ec_tbl)) B.pre
  have htb : ∀ w ∈ ec_tbl, w.before _ s = true := fun w h => hts w (List.mem_cons_of_mem _ h)
  clear hts
  have hown : s.vm.findClass "ExactMesh" = some m.cls := findClass_of_methodNamed B.named
  have hlocks := B.notSynchronized
  have hl := lv_entry ([.ref (a 0), .int v, .int w]) (n := 3) (Nat.le_of_ble_eq_true rfl)
  rw [lg_entry_eq]
  generalize (lg_sl ([.ref (a 0), .int v, .int w]) ++ List.replicate (3 - (lg_sl ([.ref (a 0), .int v, .int w])).length) Slot.unset).toArray = ls at hl ⊢
  replace hl : lv_has ls 3 [(0, .ref (a 0)), (1, .int v), (2, .int w)] := hl
  have gmn := gM.1
  have gmc := gM.2.1
  have gow := gM.2.2.1
  have gmr := gM.2.2.2
  refine lv_aload_n hx hb d_X_across_0 rfl (lv_at hl 0 rfl) ?_
  refine va_get (D := (dC, dI)) (ci := 4) (v := .ref (a 17)) (C := R_X) (T := T_X) (N := 5) hx hb htb in_X hown hK hP 0 rfl rfl 4 (by decide) (htb _ wd_117) (fun _ h9 => h9) rfl d_X_across_1 ?_
  refine lv_iload_n hx hb d_X_across_4 rfl (lv_at hl 1 rfl) ?_
  refine lv_iload_n hx hb d_X_across_5 rfl (lv_at hl 2 rfl) ?_
  refine ec_vSi (C := "ExactMesh$CarvedMesh") (ci := 3) (q := (R_M, T_M, 5)) (q0 := 17) (As := [.int v, .int w]) (rest := []) ⟨hx, hb, hml, hown, htb⟩ (c_M_hasSide l dC dI a cI cZ cJ pn px py ln lf lt lr sn sf st sr th hn qx qy mn mc mk mo mr rest v w gmn) kv_M_hasSide hK hP rfl rfl rfl wd_387 ⟨Nat.le_of_ble_eq_true rfl, Nat.le_of_ble_eq_true rfl⟩ ⟨rfl, rfl⟩ rfl hl.1 rfl (Nat.le_of_ble_eq_true rfl) d_X_across_6 ⟨Nat.zero_le _, Nat.zero_le _⟩ (fun r6 hr6 => ?_)
  replace hr6 : ec_isB r6 (0 ≤ v.toInt ∧ v.toInt < mn ∧ 0 ≤ w.toInt ∧ w.toInt ≤ 2) := hr6
  refine ec_if_eqB (tgt := 24) hx hb hr6 d_X_across_9 rfl (fun h9 => ?_) (fun h9 => ?_)
  · refine lv_iconst (v := -1) hx hb d_X_across_24 (by decide) ?_
    exact W.iret hx hb hr (fun tS ht hW => ⟨_, rfl, (ec_acrF_n h9), ht⟩) (fun _ h => nomatch h) d_X_across_25
  · obtain ⟨t, k, htt, ht2, hk, rfl, rfl⟩ := ec_ofHC h9
    refine lv_aload_n hx hb d_X_across_12 rfl (lv_at hl 0 rfl) ?_
    refine va_get (D := (dC, dI)) (ci := 4) (v := .ref (a 17)) (C := R_X) (T := T_X) (N := 5) hx hb htb in_X hown hK hP 0 rfl rfl 4 (by decide) (htb _ wd_117) (fun _ h9 => h9) rfl d_X_across_13 ?_
    refine lv_iload_n hx hb d_X_across_16 rfl (lv_at hl 1 rfl) ?_
    refine lv_iload_n hx hb d_X_across_17 rfl (lv_at hl 2 rfl) ?_
    refine ec_vSi (C := "ExactMesh$CarvedMesh") (ci := 3) (q := (R_M, T_M, 5)) (q0 := 17) (As := [.int (nI t), .int (nI k)]) (rest := []) ⟨hx, hb, hml, hown, htb⟩ (c_M_beyond l dC dI a cI cZ cJ pn px py ln lf lt lr sn sf st sr th hn qx qy mn mc mk mo mr rest t k g12 gM (by omega) (by omega)) kv_M_beyond hK hP rfl rfl rfl wd_396 ⟨Nat.le_of_ble_eq_true rfl, Nat.le_of_ble_eq_true rfl⟩ ⟨rfl, rfl⟩ rfl hl.1 rfl (Nat.le_of_ble_eq_true rfl) d_X_across_18 ⟨Nat.zero_le _, Nat.zero_le _⟩ (fun r18 hr18 => ?_)
    replace hr18 : r18 = ec_oi (ec_bey mc mo t k) := hr18
    subst hr18
    refine lv_goto (tgt := 25) hx hb d_X_across_21 rfl ?_
    exact W.iret hx hb hr (fun tS ht hW => ⟨_, rfl, (ec_acrF_y htt ht2 hk (ec_own_Ow (gow (by omega)) (by have := gmc (3 * t + ec_nx k) (by have := ec_nx_lt (k := k) (by omega); omega); omega) (by have := gmc (3 * t + k) (by omega); omega) (ec_uqs_Ow (gow (by omega)) g12 gmc))), ht⟩) (fun _ h => nomatch h) d_X_across_25

set_option maxRecDepth 100000 in
set_option maxHeartbeats 4000000 in
theorem c_X_fixed (l : Launch) (dC : Nat → ClassId) (dI : Nat → Nat → Nat) (a : Nat → Nat) (cI cZ cJ : ClassId) (pn : Nat) (px : Nat → Int32) (py : Nat → Int32) (ln : Nat) (lf : Nat → Nat) (lt : Nat → Nat) (lr : Nat → Nat) (sn : Nat) (sf : Nat → Nat) (st : Nat → Nat) (sr : Nat → Nat) (th : Nat → Option Nat) (hn : Nat) (qx : Nat → Int32) (qy : Nat → Int32) (mn : Nat) (mc : Nat → Nat) (mk : Nat → Prop) (mo : Nat → Option Nat) (mr : Nat → Nat) (rest : va_W) (v : Int32) (w : Int32) (g12 : pn ≤ 12) (gM : ec_MI pn mn mc mo mr) : Met l y_X_fixed (Cond.code y_X_fixed b_X_fixed 3 (some .boolean) :: ec_tbl) ({ frames := 3, cells := 0, slots := 0, locals := 66 }) (va_Pc [.ref (a 0), .int v, .int w] (fun U => va_P (dC, dI) vwCl (wX a cI cZ cJ pn px py ln lf lt lr sn sf st sr th hn qx qy mn mc mk mo mr ++ rest) U.heap ∧ va_K (dC, dI) vwCl (ec_tys cI cZ cJ) U)) (vp_Si (fun r : Int32 => ec_isB r (ec_hc mn v w ∧ (mr (mc (3 * ec_n v + ec_n w))).testBit (mc (3 * ec_n v + ec_nx (ec_n w))) = true))) 0 0 (fun _ => False) := by
  refine Met.ofW (cc := b_X_fixed) (maxL := 3) (ret := (some .boolean)) (by decide) rfl ?_
  intro p e s m args below meth c s₁ B hml hv0
  obtain ⟨rfl, hP, hK⟩ := hv0
  have hx := B.exec
  have hb := B.bytes
  have hr := B.returns
  have hts := atoms_spec (ws := (Cond.code y_X_fixed b_X_fixed 3 (some .boolean) :: ec_tbl)) B.pre
  have htb : ∀ w ∈ ec_tbl, w.before _ s = true := fun w h => hts w (List.mem_cons_of_mem _ h)
  clear hts
  have hown : s.vm.findClass "ExactMesh" = some m.cls := findClass_of_methodNamed B.named
  have hlocks := B.notSynchronized
  have hl := lv_entry ([.ref (a 0), .int v, .int w]) (n := 3) (Nat.le_of_ble_eq_true rfl)
  rw [lg_entry_eq]
  generalize (lg_sl ([.ref (a 0), .int v, .int w]) ++ List.replicate (3 - (lg_sl ([.ref (a 0), .int v, .int w])).length) Slot.unset).toArray = ls at hl ⊢
  replace hl : lv_has ls 3 [(0, .ref (a 0)), (1, .int v), (2, .int w)] := hl
  have gmn := gM.1
  have gmc := gM.2.1
  have gow := gM.2.2.1
  have gmr := gM.2.2.2
  refine lv_aload_n hx hb d_X_fixed_0 rfl (lv_at hl 0 rfl) ?_
  refine va_get (D := (dC, dI)) (ci := 4) (v := .ref (a 17)) (C := R_X) (T := T_X) (N := 5) hx hb htb in_X hown hK hP 0 rfl rfl 4 (by decide) (htb _ wd_117) (fun _ h9 => h9) rfl d_X_fixed_1 ?_
  refine lv_iload_n hx hb d_X_fixed_4 rfl (lv_at hl 1 rfl) ?_
  refine lv_iload_n hx hb d_X_fixed_5 rfl (lv_at hl 2 rfl) ?_
  refine ec_vSi (C := "ExactMesh$CarvedMesh") (ci := 3) (q := (R_M, T_M, 5)) (q0 := 17) (As := [.int v, .int w]) (rest := []) ⟨hx, hb, hml, hown, htb⟩ (c_M_hasSide l dC dI a cI cZ cJ pn px py ln lf lt lr sn sf st sr th hn qx qy mn mc mk mo mr rest v w gmn) kv_M_hasSide hK hP rfl rfl rfl wd_387 ⟨Nat.le_of_ble_eq_true rfl, Nat.le_of_ble_eq_true rfl⟩ ⟨rfl, rfl⟩ rfl hl.1 rfl (Nat.le_of_ble_eq_true rfl) d_X_fixed_6 ⟨Nat.zero_le _, Nat.zero_le _⟩ (fun r6 hr6 => ?_)
  replace hr6 : ec_isB r6 (0 ≤ v.toInt ∧ v.toInt < mn ∧ 0 ≤ w.toInt ∧ w.toInt ≤ 2) := hr6
  refine ec_if_eqB (tgt := 28) hx hb hr6 d_X_fixed_9 rfl (fun h9 => ?_) (fun h9 => ?_)
  · refine lv_iconst (v := nI 0) hx hb d_X_fixed_28 (by decide) ?_
    exact W.zret hx hb hr rfl (fun tS ht hW => ⟨_, rfl, (ec_isB.f0 (fun q => h9 q.1)), ht⟩) (fun _ h => nomatch h) d_X_fixed_29
  · obtain ⟨t, k, htt, ht2, hk, rfl, rfl⟩ := ec_ofHC h9
    refine lv_aload_n hx hb d_X_fixed_12 rfl (lv_at hl 0 rfl) ?_
    refine va_get (D := (dC, dI)) (ci := 4) (v := .ref (a 17)) (C := R_X) (T := T_X) (N := 5) hx hb htb in_X hown hK hP 0 rfl rfl 4 (by decide) (htb _ wd_117) (fun _ h9 => h9) rfl d_X_fixed_13 ?_
    refine lv_iload_n hx hb d_X_fixed_16 rfl (lv_at hl 1 rfl) ?_
    refine lv_iload_n hx hb d_X_fixed_17 rfl (lv_at hl 2 rfl) ?_
    refine ec_vSi (C := "ExactMesh$CarvedMesh") (ci := 3) (q := (R_M, T_M, 5)) (q0 := 17) (As := [.int (nI t), .int (nI k)]) (rest := []) ⟨hx, hb, hml, hown, htb⟩ (c_M_isFixed l dC dI a cI cZ cJ pn px py ln lf lt lr sn sf st sr th hn qx qy mn mc mk mo mr rest t k g12 gM (by omega) (by omega)) kv_M_isFixed hK hP rfl rfl rfl wd_401 ⟨Nat.le_of_ble_eq_true rfl, Nat.le_of_ble_eq_true rfl⟩ ⟨rfl, rfl⟩ rfl hl.1 rfl (Nat.le_of_ble_eq_true rfl) d_X_fixed_18 ⟨Nat.zero_le _, Nat.zero_le _⟩ (fun r18 hr18 => ?_)
    replace hr18 : ec_isB r18 ((mr (mc (3 * t + k))).testBit (mc (3 * t + ec_nx k)) = true) := hr18
    refine ec_if_eqB (tgt := 28) hx hb hr18 d_X_fixed_21 rfl (fun h21 => ?_) (fun h21 => ?_)
    · refine lv_iconst (v := nI 0) hx hb d_X_fixed_28 (by decide) ?_
      exact W.zret hx hb hr rfl (fun tS ht hW => ⟨_, rfl, (ec_isB.f0 (fun q => h21 (by have z := q.2; rw [ec_n_nI ht2, ec_n_nI (by omega)] at z; exact z))), ht⟩) (fun _ h => nomatch h) d_X_fixed_29
    · refine lv_iconst (v := nI 1) hx hb d_X_fixed_24 (by decide) ?_
      refine lv_goto (tgt := 29) hx hb d_X_fixed_25 rfl ?_
      exact W.zret hx hb hr rfl (fun tS ht hW => ⟨_, rfl, (ec_isB.t1 ⟨h9, by rw [ec_n_nI ht2, ec_n_nI (by omega)]; exact h21⟩), ht⟩) (fun _ h => nomatch h) d_X_fixed_29

set_option maxRecDepth 100000 in
set_option maxHeartbeats 4000000 in
theorem c_X_locate (l : Launch) (dC : Nat → ClassId) (dI : Nat → Nat → Nat) (a : Nat → Nat) (cI cZ cJ : ClassId) (pn : Nat) (px : Nat → Int32) (py : Nat → Int32) (ln : Nat) (lf : Nat → Nat) (lt : Nat → Nat) (lr : Nat → Nat) (sn : Nat) (sf : Nat → Nat) (st : Nat → Nat) (sr : Nat → Nat) (th : Nat → Option Nat) (hn : Nat) (qx : Nat → Int32) (qy : Nat → Int32) (mn : Nat) (mc : Nat → Nat) (mk : Nat → Prop) (mo : Nat → Option Nat) (mr : Nat → Nat) (rest : va_W) (vx : Int32) (vy : Int32) (g12 : pn ≤ 12) (gN : ∀ i, i < pn → ec_near (px i) ∧ ec_near (py i)) (gM : ec_MI pn mn mc mo mr) : Met l y_X_locate (Cond.code y_X_locate b_X_locate 4 (some .int) :: ec_tbl) ({ frames := 3, cells := 0, slots := 0, locals := 69 }) (va_Pc [.ref (a 0), .int vx, .int vy] (fun U => va_P (dC, dI) vwCl (wX a cI cZ cJ pn px py ln lf lt lr sn sf st sr th hn qx qy mn mc mk mo mr ++ rest) U.heap ∧ va_K (dC, dI) vwCl (ec_tys cI cZ cJ) U)) (vp_Si (fun r : Int32 => ∃ o, r = ec_oi o ∧ ec_fst mn (fun t => ec_hold px py mc t vx vy) o)) 0 0 (fun _ => False) := by
  refine Met.ofW (cc := b_X_locate) (maxL := 4) (ret := (some .int)) (by decide) rfl ?_
  intro p e s m args below meth c s₁ B hml hv0
  obtain ⟨rfl, hP, hK⟩ := hv0
  have hx := B.exec
  have hb := B.bytes
  have hr := B.returns
  have hts := atoms_spec (ws := (Cond.code y_X_locate b_X_locate 4 (some .int) :: ec_tbl)) B.pre
  have htb : ∀ w ∈ ec_tbl, w.before _ s = true := fun w h => hts w (List.mem_cons_of_mem _ h)
  clear hts
  have hown : s.vm.findClass "ExactMesh" = some m.cls := findClass_of_methodNamed B.named
  have hlocks := B.notSynchronized
  have hl := lv_entry ([.ref (a 0), .int vx, .int vy]) (n := 4) (Nat.le_of_ble_eq_true rfl)
  rw [lg_entry_eq]
  generalize (lg_sl ([.ref (a 0), .int vx, .int vy]) ++ List.replicate (4 - (lg_sl ([.ref (a 0), .int vx, .int vy])).length) Slot.unset).toArray = ls at hl ⊢
  replace hl : lv_has ls 4 [(0, .ref (a 0)), (1, .int vx), (2, .int vy)] := hl
  have gmn := gM.1
  have gmc := gM.2.1
  have gow := gM.2.2.1
  have gmr := gM.2.2.2
  refine lv_iconst (v := nI 0) hx hb d_X_locate_0 (by decide) ?_
  refine lv_istore_n hx hb d_X_locate_1 rfl hl (by decide) rfl (fun ls hl => ?_)
  replace hl : lv_has ls 4 [(3, .int (nI 0)), (0, .ref (a 0)), (1, .int vx), (2, .int vy)] := hl
  obtain ⟨t, e_t⟩ : ∃ z : Nat, z = 0 := ⟨_, rfl⟩
  replace hl : lv_has ls 4 [(0, .ref (a 0)), (1, .int vx), (2, .int vy), (3, .int (nI t))] := by (try simp only [e_t]); exact lv_sub hl [1, 2, 3, 0] rfl
  have hle : t ≤ mn := by omega
  have hI : ∀ v, v < t → ¬ ec_hold px py mc v vx vy := by exact fun v hv => by omega
  clear e_t
  generalize hk2 : mn - t = k2
  induction k2 using Nat.strongRecOn generalizing t ls with
  | ind k2 ih2 =>
  refine lv_iload_n hx hb d_X_locate_2 rfl (lv_at hl 3 rfl) ?_
  refine lv_aload_n hx hb d_X_locate_3 rfl (lv_at hl 0 rfl) ?_
  refine va_get (D := (dC, dI)) (ci := 4) (v := .ref (a 17)) (C := R_X) (T := T_X) (N := 5) hx hb htb in_X hown hK hP 0 rfl rfl 4 (by decide) (htb _ wd_117) (fun _ h9 => h9) rfl d_X_locate_4 ?_
  refine va_getN (D := (dC, dI)) (ci := 3) (v := .int (nI mn)) (C := R_M) (T := T_M) (N := 5) hx hb htb in_M hown hK hP 17 rfl rfl 4 (by decide) (htb _ wd_100) (fun _ h9 => h9) rfl d_X_locate_7 ?_
  refine ec_icmp_ge (tgt := 38) hx hb d_X_locate_10 rfl (by omega) (by omega) (fun h10 => ?_) (fun h10 => ?_)
  · refine lv_iconst (v := -1) hx hb d_X_locate_38 (by decide) ?_
    exact W.iret hx hb hr (fun tS ht hW => ⟨_, rfl, ⟨none, rfl, fun v q => (by cases q), fun _ v hv => hI v (by omega)⟩, ht⟩) (fun _ h => nomatch h) d_X_locate_39
  · refine lv_aload_n hx hb d_X_locate_13 rfl (lv_at hl 0 rfl) ?_
    refine va_get (D := (dC, dI)) (ci := 4) (v := .ref (a 17)) (C := R_X) (T := T_X) (N := 5) hx hb htb in_X hown hK hP 0 rfl rfl 4 (by decide) (htb _ wd_117) (fun _ h9 => h9) rfl d_X_locate_14 ?_
    refine lv_aload_n hx hb d_X_locate_17 rfl (lv_at hl 0 rfl) ?_
    refine va_get (D := (dC, dI)) (ci := 4) (v := .ref (a 2)) (C := R_X) (T := T_X) (N := 5) hx hb htb in_X hown hK hP 0 rfl rfl 1 (by decide) (htb _ wd_114) (fun _ h9 => h9) rfl d_X_locate_18 ?_
    refine lv_iload_n hx hb d_X_locate_21 rfl (lv_at hl 3 rfl) ?_
    refine lv_iload_n hx hb d_X_locate_22 rfl (lv_at hl 1 rfl) ?_
    refine lv_iload_n hx hb d_X_locate_23 rfl (lv_at hl 2 rfl) ?_
    refine ec_vSi (C := "ExactMesh$CarvedMesh") (ci := 3) (q := (R_M, T_M, 5)) (q0 := 17) (As := [.ref (a 2), .int (nI t), .int vx, .int vy]) (rest := []) ⟨hx, hb, hml, hown, htb⟩ (c_M_holds l dC dI a cI cZ cJ pn px py ln lf lt lr sn sf st sr th hn qx qy mn mc mk mo mr rest t vx vy g12 gN gM (by omega)) kv_M_holds hK hP rfl rfl rfl wd_406 ⟨Nat.le_of_ble_eq_true rfl, Nat.le_of_ble_eq_true rfl⟩ ⟨rfl, rfl⟩ rfl hl.1 rfl (Nat.le_of_ble_eq_true rfl) d_X_locate_24 ⟨Nat.zero_le _, Nat.zero_le _⟩ (fun r24 hr24 => ?_)
    replace hr24 : ec_isB r24 (ec_hold px py mc t vx vy) := hr24
    refine ec_if_eqB (tgt := 32) hx hb hr24 d_X_locate_27 rfl (fun h27 => ?_) (fun h27 => ?_)
    · refine ec_iinc (k := 3) hx hb d_X_locate_32 hl rfl (by decide) rfl (fun ls hl => ?_)
      replace hl : lv_has ls 4 [(3, .int (nI (t + 1))), (0, .ref (a 0)), (1, .int vx), (2, .int vy)] := hl
      refine lv_goto (tgt := 2) hx hb d_X_locate_35 rfl ?_
      exact ih2 _ (by omega) (t := t + 1) (ls := ls) (hl := lv_sub hl [1, 2, 3, 0] rfl) (hle := (by omega)) (hI := (lt_s hI h27)) (hk2 := rfl)
    · refine lv_iload_n hx hb d_X_locate_30 rfl (lv_at hl 3 rfl) ?_
      exact W.iret hx hb hr (fun tS ht hW => ⟨_, rfl, ⟨some t, rfl, fun v q => by cases q; exact ⟨by omega, h27, hI⟩, fun q => (by cases q)⟩, ht⟩) (fun _ h => nomatch h) d_X_locate_31

set_option maxRecDepth 100000 in
set_option maxHeartbeats 4000000 in
theorem c_X_degree (l : Launch) (dC : Nat → ClassId) (dI : Nat → Nat → Nat) (a : Nat → Nat) (cI cZ cJ : ClassId) (pn : Nat) (px : Nat → Int32) (py : Nat → Int32) (ln : Nat) (lf : Nat → Nat) (lt : Nat → Nat) (lr : Nat → Nat) (sn : Nat) (sf : Nat → Nat) (st : Nat → Nat) (sr : Nat → Nat) (th : Nat → Option Nat) (hn : Nat) (qx : Nat → Int32) (qy : Nat → Int32) (mn : Nat) (mc : Nat → Nat) (mk : Nat → Prop) (mo : Nat → Option Nat) (mr : Nat → Nat) (rest : va_W) (v : Int32) (g12 : pn ≤ 12) (gmn : mn ≤ 19) : Met l y_X_degree (Cond.code y_X_degree b_X_degree 2 (some .int) :: ec_tbl) ({ frames := 1, cells := 0, slots := 0, locals := 23 }) (va_Pc [.ref (a 0), .int v] (fun U => va_P (dC, dI) vwCl (wX a cI cZ cJ pn px py ln lf lt lr sn sf st sr th hn qx qy mn mc mk mo mr ++ rest) U.heap ∧ va_K (dC, dI) vwCl (ec_tys cI cZ cJ) U)) (vp_Si (fun r : Int32 => r = ec_degF pn mn mc v)) 0 0 (fun _ => False) := by
  refine Met.ofW (cc := b_X_degree) (maxL := 2) (ret := (some .int)) (by decide) rfl ?_
  intro p e s m args below meth c s₁ B hml hv0
  obtain ⟨rfl, hP, hK⟩ := hv0
  have hx := B.exec
  have hb := B.bytes
  have hr := B.returns
  have hts := atoms_spec (ws := (Cond.code y_X_degree b_X_degree 2 (some .int) :: ec_tbl)) B.pre
  have htb : ∀ w ∈ ec_tbl, w.before _ s = true := fun w h => hts w (List.mem_cons_of_mem _ h)
  clear hts
  have hown : s.vm.findClass "ExactMesh" = some m.cls := findClass_of_methodNamed B.named
  have hlocks := B.notSynchronized
  have hl := lv_entry ([.ref (a 0), .int v]) (n := 2) (Nat.le_of_ble_eq_true rfl)
  rw [lg_entry_eq]
  generalize (lg_sl ([.ref (a 0), .int v]) ++ List.replicate (2 - (lg_sl ([.ref (a 0), .int v])).length) Slot.unset).toArray = ls at hl ⊢
  replace hl : lv_has ls 2 [(0, .ref (a 0)), (1, .int v)] := hl
  refine lv_aload_n hx hb d_X_degree_0 rfl (lv_at hl 0 rfl) ?_
  refine va_get (D := (dC, dI)) (ci := 4) (v := .ref (a 2)) (C := R_X) (T := T_X) (N := 5) hx hb htb in_X hown hK hP 0 rfl rfl 1 (by decide) (htb _ wd_114) (fun _ h9 => h9) rfl d_X_degree_1 ?_
  refine lv_iload_n hx hb d_X_degree_4 rfl (lv_at hl 1 rfl) ?_
  refine ec_vSi (C := "ExactMesh$Points") (ci := 0) (q := (R_P, T_P, 3)) (q0 := 2) (As := [.int v]) (rest := []) ⟨hx, hb, hml, hown, htb⟩ (c_P_has l dC dI a cI cZ cJ pn px py ln lf lt lr sn sf st sr th hn qx qy mn mc mk mo mr rest v g12) kv_P_has hK hP rfl rfl rfl wd_173 ⟨Nat.le_of_ble_eq_true rfl, Nat.le_of_ble_eq_true rfl⟩ ⟨rfl, rfl⟩ rfl hl.1 rfl (Nat.le_of_ble_eq_true rfl) d_X_degree_5 ⟨Nat.zero_le _, Nat.zero_le _⟩ (fun r5 hr5 => ?_)
  replace hr5 : ec_isB r5 (0 ≤ v.toInt ∧ v.toInt < pn) := hr5
  refine ec_if_eqB (tgt := 22) hx hb hr5 d_X_degree_8 rfl (fun h8 => ?_) (fun h8 => ?_)
  · refine lv_iconst (v := -1) hx hb d_X_degree_22 (by decide) ?_
    exact W.iret hx hb hr (fun tS ht hW => ⟨_, rfl, (ec_degF_n h8), ht⟩) (fun _ h => nomatch h) d_X_degree_23
  · refine lv_aload_n hx hb d_X_degree_11 rfl (lv_at hl 0 rfl) ?_
    refine va_get (D := (dC, dI)) (ci := 4) (v := .ref (a 17)) (C := R_X) (T := T_X) (N := 5) hx hb htb in_X hown hK hP 0 rfl rfl 4 (by decide) (htb _ wd_117) (fun _ h9 => h9) rfl d_X_degree_12 ?_
    refine lv_iload_n hx hb d_X_degree_15 rfl (lv_at hl 1 rfl) ?_
    refine ec_vSi (C := "ExactMesh$CarvedMesh") (ci := 3) (q := (R_M, T_M, 5)) (q0 := 17) (As := [.int v]) (rest := []) ⟨hx, hb, hml, hown, htb⟩ (c_M_trianglesAt l dC dI a cI cZ cJ pn px py ln lf lt lr sn sf st sr th hn qx qy mn mc mk mo mr rest v gmn) kv_M_trianglesAt hK hP rfl rfl rfl wd_411 ⟨Nat.le_of_ble_eq_true rfl, Nat.le_of_ble_eq_true rfl⟩ ⟨rfl, rfl⟩ rfl hl.1 rfl (Nat.le_of_ble_eq_true rfl) d_X_degree_16 ⟨Nat.zero_le _, Nat.zero_le _⟩ (fun r16 hr16 => ?_)
    replace hr16 : r16 = nI (ec_deg mc v (3 * mn)) := hr16
    subst hr16
    refine lv_goto (tgt := 23) hx hb d_X_degree_19 rfl ?_
    exact W.iret hx hb hr (fun tS ht hW => ⟨_, rfl, (ec_degF_y h8), ht⟩) (fun _ h => nomatch h) d_X_degree_23

set_option maxRecDepth 100000 in
set_option maxHeartbeats 4000000 in
theorem c_X_area (l : Launch) (dC : Nat → ClassId) (dI : Nat → Nat → Nat) (a : Nat → Nat) (cI cZ cJ : ClassId) (pn : Nat) (px : Nat → Int32) (py : Nat → Int32) (ln : Nat) (lf : Nat → Nat) (lt : Nat → Nat) (lr : Nat → Nat) (sn : Nat) (sf : Nat → Nat) (st : Nat → Nat) (sr : Nat → Nat) (th : Nat → Option Nat) (hn : Nat) (qx : Nat → Int32) (qy : Nat → Int32) (mn : Nat) (mc : Nat → Nat) (mk : Nat → Prop) (mo : Nat → Option Nat) (mr : Nat → Nat) (rest : va_W) (g12 : pn ≤ 12) (gN : ∀ i, i < pn → ec_near (px i) ∧ ec_near (py i)) (gM : ec_MI pn mn mc mo mr) : Met l y_X_area (Cond.code y_X_area b_X_area 4 (some .long) :: ec_tbl) ({ frames := 2, cells := 0, slots := 0, locals := 51 }) (va_Pc [.ref (a 0)] (fun U => va_P (dC, dI) vwCl (wX a cI cZ cJ pn px py ln lf lt lr sn sf st sr th hn qx qy mn mc mk mo mr ++ rest) U.heap ∧ va_K (dC, dI) vwCl (ec_tys cI cZ cJ) U)) (vp_Sl (fun r : Int64 => r = ec_sumL (ec_arT px py mc) mn)) 0 0 (fun _ => False) := by
  refine Met.ofW (cc := b_X_area) (maxL := 4) (ret := (some .long)) (by decide) rfl ?_
  intro p e s m args below meth c s₁ B hml hv0
  obtain ⟨rfl, hP, hK⟩ := hv0
  have hx := B.exec
  have hb := B.bytes
  have hr := B.returns
  have hts := atoms_spec (ws := (Cond.code y_X_area b_X_area 4 (some .long) :: ec_tbl)) B.pre
  have htb : ∀ w ∈ ec_tbl, w.before _ s = true := fun w h => hts w (List.mem_cons_of_mem _ h)
  clear hts
  have hown : s.vm.findClass "ExactMesh" = some m.cls := findClass_of_methodNamed B.named
  have hlocks := B.notSynchronized
  have hl := lv_entry ([.ref (a 0)]) (n := 4) (Nat.le_of_ble_eq_true rfl)
  rw [lg_entry_eq]
  generalize (lg_sl ([.ref (a 0)]) ++ List.replicate (4 - (lg_sl ([.ref (a 0)])).length) Slot.unset).toArray = ls at hl ⊢
  replace hl : lv_has ls 4 [(0, .ref (a 0))] := hl
  have gmn := gM.1
  have gmc := gM.2.1
  have gow := gM.2.2.1
  have gmr := gM.2.2.2
  refine lv_lconst (v := 0) hx hb d_X_area_0 (by decide) ?_
  refine lv_lstore_n hx hb d_X_area_1 rfl hl (by decide) rfl (fun ls hl => ?_)
  replace hl : lv_has ls 4 [(1, .long 0), (0, .ref (a 0))] := hl
  refine lv_iconst (v := nI 0) hx hb d_X_area_2 (by decide) ?_
  refine lv_istore_n hx hb d_X_area_3 rfl hl (by decide) rfl (fun ls hl => ?_)
  replace hl : lv_has ls 4 [(3, .int (nI 0)), (1, .long 0), (0, .ref (a 0))] := hl
  obtain ⟨f, e_f⟩ : ∃ z : Int64, z = 0 := ⟨_, rfl⟩
  obtain ⟨t, e_t⟩ : ∃ z : Nat, z = 0 := ⟨_, rfl⟩
  replace hl : lv_has ls 4 [(0, .ref (a 0)), (1, .long f), (3, .int (nI t))] := by (try simp only [e_f, e_t]); exact lv_sub hl [2, 1, 0] rfl
  have hle : t ≤ mn := by omega
  have hf : f = ec_sumL (ec_arT px py mc) t := by rw [e_t, e_f]; rfl
  clear e_t e_f
  generalize hk4 : mn - t = k4
  induction k4 using Nat.strongRecOn generalizing f t ls with
  | ind k4 ih4 =>
  refine lv_iload_n hx hb d_X_area_4 rfl (lv_at hl 2 rfl) ?_
  refine lv_aload_n hx hb d_X_area_5 rfl (lv_at hl 0 rfl) ?_
  refine va_get (D := (dC, dI)) (ci := 4) (v := .ref (a 17)) (C := R_X) (T := T_X) (N := 5) hx hb htb in_X hown hK hP 0 rfl rfl 4 (by decide) (htb _ wd_117) (fun _ h9 => h9) rfl d_X_area_6 ?_
  refine va_getN (D := (dC, dI)) (ci := 3) (v := .int (nI mn)) (C := R_M) (T := T_M) (N := 5) hx hb htb in_M hown hK hP 17 rfl rfl 4 (by decide) (htb _ wd_100) (fun _ h9 => h9) rfl d_X_area_9 ?_
  refine ec_icmp_ge (tgt := 36) hx hb d_X_area_12 rfl (by omega) (by omega) (fun h12 => ?_) (fun h12 => ?_)
  · refine lv_lload_n hx hb d_X_area_36 rfl (lv_at hl 1 rfl) ?_
    exact W.lret hx hb hr (fun tS ht hW => ⟨_, rfl, (by rw [hf, show t = mn by omega]), ht⟩) (fun _ h => nomatch h) d_X_area_37
  · refine lv_lload_n hx hb d_X_area_15 rfl (lv_at hl 1 rfl) ?_
    refine lv_aload_n hx hb d_X_area_16 rfl (lv_at hl 0 rfl) ?_
    refine va_get (D := (dC, dI)) (ci := 4) (v := .ref (a 17)) (C := R_X) (T := T_X) (N := 5) hx hb htb in_X hown hK hP 0 rfl rfl 4 (by decide) (htb _ wd_117) (fun _ h9 => h9) rfl d_X_area_17 ?_
    refine lv_aload_n hx hb d_X_area_20 rfl (lv_at hl 0 rfl) ?_
    refine va_get (D := (dC, dI)) (ci := 4) (v := .ref (a 2)) (C := R_X) (T := T_X) (N := 5) hx hb htb in_X hown hK hP 0 rfl rfl 1 (by decide) (htb _ wd_114) (fun _ h9 => h9) rfl d_X_area_21 ?_
    refine lv_iload_n hx hb d_X_area_24 rfl (lv_at hl 2 rfl) ?_
    refine ec_vSl (C := "ExactMesh$CarvedMesh") (ci := 3) (q := (R_M, T_M, 5)) (q0 := 17) (As := [.ref (a 2), .int (nI t)]) (rest := [.long f]) ⟨hx, hb, hml, hown, htb⟩ (c_M_doubleArea l dC dI a cI cZ cJ pn px py ln lf lt lr sn sf st sr th hn qx qy mn mc mk mo mr rest t g12 gN gM (by omega)) kv_M_doubleArea hK hP rfl rfl rfl wd_419 ⟨Nat.le_of_ble_eq_true rfl, Nat.le_of_ble_eq_true rfl⟩ ⟨rfl, rfl⟩ rfl hl.1 rfl (Nat.le_of_ble_eq_true rfl) d_X_area_25 ⟨Nat.zero_le _, Nat.zero_le _⟩ (fun r25 hr25 => ?_)
    replace hr25 : r25.toInt = ec_lf (px (mc (3 * t + 0))).toInt (py (mc (3 * t + 0))).toInt (px (mc (3 * t + 1))).toInt (py (mc (3 * t + 1))).toInt (px (mc (3 * t + 2))).toInt (py (mc (3 * t + 2))).toInt := hr25
    refine lv_ladd hx hb d_X_area_28 ?_
    refine lv_topl (fun v1 e_v1 => ?_)
    refine lv_lstore_n hx hb d_X_area_29 rfl hl (by decide) rfl (fun ls hl => ?_)
    replace hl : lv_has ls 4 [(1, .long v1), (0, .ref (a 0)), (3, .int (nI t))] := hl
    refine ec_iinc (k := 2) hx hb d_X_area_30 hl rfl (by decide) rfl (fun ls hl => ?_)
    replace hl : lv_has ls 4 [(3, .int (nI (t + 1))), (1, .long v1), (0, .ref (a 0))] := hl
    refine lv_goto (tgt := 4) hx hb d_X_area_33 rfl ?_
    exact ih4 _ (by omega) (f := v1) (t := t + 1) (ls := ls) (hl := lv_sub hl [2, 1, 0] rfl) (hle := (by omega)) (hf := (by unfold ec_sumL; rw [e_v1, hf]; exact congrArg _ (ec_L_of hr25))) (hk4 := rfl)

set_option maxRecDepth 100000 in
set_option maxHeartbeats 4000000 in
theorem c_X_border (l : Launch) (dC : Nat → ClassId) (dI : Nat → Nat → Nat) (a : Nat → Nat) (cI cZ cJ : ClassId) (pn : Nat) (px : Nat → Int32) (py : Nat → Int32) (ln : Nat) (lf : Nat → Nat) (lt : Nat → Nat) (lr : Nat → Nat) (sn : Nat) (sf : Nat → Nat) (st : Nat → Nat) (sr : Nat → Nat) (th : Nat → Option Nat) (hn : Nat) (qx : Nat → Int32) (qy : Nat → Int32) (mn : Nat) (mc : Nat → Nat) (mk : Nat → Prop) (mo : Nat → Option Nat) (mr : Nat → Nat) (rest : va_W) (g12 : pn ≤ 12) (gM : ec_MI pn mn mc mo mr) : Met l y_X_border (Cond.code y_X_border b_X_border 1 (some .int) :: ec_tbl) ({ frames := 4, cells := 0, slots := 0, locals := 89 }) (va_Pc [.ref (a 0)] (fun U => va_P (dC, dI) vwCl (wX a cI cZ cJ pn px py ln lf lt lr sn sf st sr th hn qx qy mn mc mk mo mr ++ rest) U.heap ∧ va_K (dC, dI) vwCl (ec_tys cI cZ cJ) U)) (vp_Si (fun r : Int32 => r = nI (ec_bor mn mc (3 * mn)))) 0 0 (fun _ => False) := by
  refine Met.ofW (cc := b_X_border) (maxL := 1) (ret := (some .int)) (by decide) rfl ?_
  intro p e s m args below meth c s₁ B hml hv0
  obtain ⟨rfl, hP, hK⟩ := hv0
  have hx := B.exec
  have hb := B.bytes
  have hr := B.returns
  have hts := atoms_spec (ws := (Cond.code y_X_border b_X_border 1 (some .int) :: ec_tbl)) B.pre
  have htb : ∀ w ∈ ec_tbl, w.before _ s = true := fun w h => hts w (List.mem_cons_of_mem _ h)
  clear hts
  have hown : s.vm.findClass "ExactMesh" = some m.cls := findClass_of_methodNamed B.named
  have hlocks := B.notSynchronized
  have hl := lv_entry ([.ref (a 0)]) (n := 1) (Nat.le_of_ble_eq_true rfl)
  rw [lg_entry_eq]
  generalize (lg_sl ([.ref (a 0)]) ++ List.replicate (1 - (lg_sl ([.ref (a 0)])).length) Slot.unset).toArray = ls at hl ⊢
  replace hl : lv_has ls 1 [(0, .ref (a 0))] := hl
  refine lv_aload_n hx hb d_X_border_0 rfl (lv_at hl 0 rfl) ?_
  refine va_get (D := (dC, dI)) (ci := 4) (v := .ref (a 17)) (C := R_X) (T := T_X) (N := 5) hx hb htb in_X hown hK hP 0 rfl rfl 4 (by decide) (htb _ wd_117) (fun _ h9 => h9) rfl d_X_border_1 ?_
  refine ec_vSi (C := "ExactMesh$CarvedMesh") (ci := 3) (q := (R_M, T_M, 5)) (q0 := 17) (As := []) (rest := []) ⟨hx, hb, hml, hown, htb⟩ (c_M_openSides l dC dI a cI cZ cJ pn px py ln lf lt lr sn sf st sr th hn qx qy mn mc mk mo mr rest g12 gM) kv_M_openSides hK hP rfl rfl rfl wd_427 ⟨Nat.le_of_ble_eq_true rfl, Nat.le_of_ble_eq_true rfl⟩ ⟨rfl, rfl⟩ rfl hl.1 rfl (Nat.le_of_ble_eq_true rfl) d_X_border_4 ⟨Nat.zero_le _, Nat.zero_le _⟩ (fun r4 hr4 => ?_)
  replace hr4 : r4 = nI (ec_opn mc mo mn) := hr4
  subst hr4
  exact W.iret hx hb hr (fun tS ht hW => ⟨_, rfl, (by rw [ec_MI_bor g12 gM]), ht⟩) (fun _ h => nomatch h) d_X_border_7

set_option maxRecDepth 100000 in
set_option maxHeartbeats 4000000 in
theorem c_X_vertices (l : Launch) (dC : Nat → ClassId) (dI : Nat → Nat → Nat) (a : Nat → Nat) (cI cZ cJ : ClassId) (pn : Nat) (px : Nat → Int32) (py : Nat → Int32) (ln : Nat) (lf : Nat → Nat) (lt : Nat → Nat) (lr : Nat → Nat) (sn : Nat) (sf : Nat → Nat) (st : Nat → Nat) (sr : Nat → Nat) (th : Nat → Option Nat) (hn : Nat) (qx : Nat → Int32) (qy : Nat → Int32) (mn : Nat) (mc : Nat → Nat) (mk : Nat → Prop) (mo : Nat → Option Nat) (mr : Nat → Nat) (rest : va_W) : Met l y_X_vertices (Cond.code y_X_vertices b_X_vertices 1 (some .int) :: ec_tbl) ({ frames := 0, cells := 0, slots := 0, locals := 0 }) (va_Pc [.ref (a 0)] (fun U => va_P (dC, dI) vwCl (wX a cI cZ cJ pn px py ln lf lt lr sn sf st sr th hn qx qy mn mc mk mo mr ++ rest) U.heap ∧ va_K (dC, dI) vwCl (ec_tys cI cZ cJ) U)) (vp_Si (fun r : Int32 => r = nI pn)) 0 0 (fun _ => False) := by
  refine Met.ofW (cc := b_X_vertices) (maxL := 1) (ret := (some .int)) (by decide) rfl ?_
  intro p e s m args below meth c s₁ B hml hv0
  obtain ⟨rfl, hP, hK⟩ := hv0
  have hx := B.exec
  have hb := B.bytes
  have hr := B.returns
  have hts := atoms_spec (ws := (Cond.code y_X_vertices b_X_vertices 1 (some .int) :: ec_tbl)) B.pre
  have htb : ∀ w ∈ ec_tbl, w.before _ s = true := fun w h => hts w (List.mem_cons_of_mem _ h)
  clear hts
  have hown : s.vm.findClass "ExactMesh" = some m.cls := findClass_of_methodNamed B.named
  have hlocks := B.notSynchronized
  have hl := lv_entry ([.ref (a 0)]) (n := 1) (Nat.le_of_ble_eq_true rfl)
  rw [lg_entry_eq]
  generalize (lg_sl ([.ref (a 0)]) ++ List.replicate (1 - (lg_sl ([.ref (a 0)])).length) Slot.unset).toArray = ls at hl ⊢
  replace hl : lv_has ls 1 [(0, .ref (a 0))] := hl
  refine lv_aload_n hx hb d_X_vertices_0 rfl (lv_at hl 0 rfl) ?_
  refine va_get (D := (dC, dI)) (ci := 4) (v := .ref (a 2)) (C := R_X) (T := T_X) (N := 5) hx hb htb in_X hown hK hP 0 rfl rfl 1 (by decide) (htb _ wd_114) (fun _ h9 => h9) rfl d_X_vertices_1 ?_
  refine va_getN (D := (dC, dI)) (ci := 0) (v := .int (nI pn)) (C := R_P) (T := T_P) (N := 3) hx hb htb in_P hown hK hP 2 rfl rfl 2 (by decide) (htb _ wd_38) (fun _ h9 => h9) rfl d_X_vertices_4 ?_
  exact W.iret hx hb hr (fun tS ht hW => ⟨_, rfl, rfl, ht⟩) (fun _ h => nomatch h) d_X_vertices_7

set_option maxRecDepth 100000 in
set_option maxHeartbeats 4000000 in
theorem c_X_segments (l : Launch) (dC : Nat → ClassId) (dI : Nat → Nat → Nat) (a : Nat → Nat) (cI cZ cJ : ClassId) (pn : Nat) (px : Nat → Int32) (py : Nat → Int32) (ln : Nat) (lf : Nat → Nat) (lt : Nat → Nat) (lr : Nat → Nat) (sn : Nat) (sf : Nat → Nat) (st : Nat → Nat) (sr : Nat → Nat) (th : Nat → Option Nat) (hn : Nat) (qx : Nat → Int32) (qy : Nat → Int32) (mn : Nat) (mc : Nat → Nat) (mk : Nat → Prop) (mo : Nat → Option Nat) (mr : Nat → Nat) (rest : va_W) : Met l y_X_segments (Cond.code y_X_segments b_X_segments 1 (some .int) :: ec_tbl) ({ frames := 0, cells := 0, slots := 0, locals := 0 }) (va_Pc [.ref (a 0)] (fun U => va_P (dC, dI) vwCl (wX a cI cZ cJ pn px py ln lf lt lr sn sf st sr th hn qx qy mn mc mk mo mr ++ rest) U.heap ∧ va_K (dC, dI) vwCl (ec_tys cI cZ cJ) U)) (vp_Si (fun r : Int32 => r = nI ln)) 0 0 (fun _ => False) := by
  refine Met.ofW (cc := b_X_segments) (maxL := 1) (ret := (some .int)) (by decide) rfl ?_
  intro p e s m args below meth c s₁ B hml hv0
  obtain ⟨rfl, hP, hK⟩ := hv0
  have hx := B.exec
  have hb := B.bytes
  have hr := B.returns
  have hts := atoms_spec (ws := (Cond.code y_X_segments b_X_segments 1 (some .int) :: ec_tbl)) B.pre
  have htb : ∀ w ∈ ec_tbl, w.before _ s = true := fun w h => hts w (List.mem_cons_of_mem _ h)
  clear hts
  have hown : s.vm.findClass "ExactMesh" = some m.cls := findClass_of_methodNamed B.named
  have hlocks := B.notSynchronized
  have hl := lv_entry ([.ref (a 0)]) (n := 1) (Nat.le_of_ble_eq_true rfl)
  rw [lg_entry_eq]
  generalize (lg_sl ([.ref (a 0)]) ++ List.replicate (1 - (lg_sl ([.ref (a 0)])).length) Slot.unset).toArray = ls at hl ⊢
  replace hl : lv_has ls 1 [(0, .ref (a 0))] := hl
  refine lv_aload_n hx hb d_X_segments_0 rfl (lv_at hl 0 rfl) ?_
  refine va_get (D := (dC, dI)) (ci := 4) (v := .ref (a 5)) (C := R_X) (T := T_X) (N := 5) hx hb htb in_X hown hK hP 0 rfl rfl 2 (by decide) (htb _ wd_115) (fun _ h9 => h9) rfl d_X_segments_1 ?_
  refine va_getN (D := (dC, dI)) (ci := 1) (v := .int (nI ln)) (C := R_L) (T := T_L) (N := 4) hx hb htb in_L hown hK hP 5 rfl rfl 3 (by decide) (htb _ wd_60) (fun _ h9 => h9) rfl d_X_segments_4 ?_
  exact W.iret hx hb hr (fun tS ht hW => ⟨_, rfl, rfl, ht⟩) (fun _ h => nomatch h) d_X_segments_7

set_option maxRecDepth 100000 in
set_option maxHeartbeats 4000000 in
theorem c_X_place (l : Launch) (dC : Nat → ClassId) (dI : Nat → Nat → Nat) (a : Nat → Nat) (cI cZ cJ : ClassId) (pn : Nat) (px : Nat → Int32) (py : Nat → Int32) (ln : Nat) (lf : Nat → Nat) (lt : Nat → Nat) (lr : Nat → Nat) (sn : Nat) (sf : Nat → Nat) (st : Nat → Nat) (sr : Nat → Nat) (th : Nat → Option Nat) (hn : Nat) (qx : Nat → Int32) (qy : Nat → Int32) (mn : Nat) (mc : Nat → Nat) (mk : Nat → Prop) (mo : Nat → Option Nat) (mr : Nat → Nat) (rest : va_W) (v : Int32) (w : Int32) (g12 : pn ≤ 12) : Met l y_X_place (Cond.code y_X_place b_X_place 3 (some .int) :: ec_tbl) ({ frames := 1, cells := 0, slots := 0, locals := 21 }) (va_Pc [.ref (a 0), .int v, .int w] (fun U => va_P (dC, dI) vwCl (wX a cI cZ cJ pn px py ln lf lt lr sn sf st sr th hn qx qy mn mc mk mo mr ++ rest) U.heap ∧ va_K (dC, dI) vwCl (ec_tys cI cZ cJ) U)) (vp_Si (fun r : Int32 => r = ec_plaF pn px py v w)) 0 0 (fun _ => False) := by
  refine Met.ofW (cc := b_X_place) (maxL := 3) (ret := (some .int)) (by decide) rfl ?_
  intro p e s m args below meth c s₁ B hml hv0
  obtain ⟨rfl, hP, hK⟩ := hv0
  have hx := B.exec
  have hb := B.bytes
  have hr := B.returns
  have hts := atoms_spec (ws := (Cond.code y_X_place b_X_place 3 (some .int) :: ec_tbl)) B.pre
  have htb : ∀ w ∈ ec_tbl, w.before _ s = true := fun w h => hts w (List.mem_cons_of_mem _ h)
  clear hts
  have hown : s.vm.findClass "ExactMesh" = some m.cls := findClass_of_methodNamed B.named
  have hlocks := B.notSynchronized
  have hl := lv_entry ([.ref (a 0), .int v, .int w]) (n := 3) (Nat.le_of_ble_eq_true rfl)
  rw [lg_entry_eq]
  generalize (lg_sl ([.ref (a 0), .int v, .int w]) ++ List.replicate (3 - (lg_sl ([.ref (a 0), .int v, .int w])).length) Slot.unset).toArray = ls at hl ⊢
  replace hl : lv_has ls 3 [(0, .ref (a 0)), (1, .int v), (2, .int w)] := hl
  refine lv_aload_n hx hb d_X_place_0 rfl (lv_at hl 0 rfl) ?_
  refine va_get (D := (dC, dI)) (ci := 4) (v := .ref (a 2)) (C := R_X) (T := T_X) (N := 5) hx hb htb in_X hown hK hP 0 rfl rfl 1 (by decide) (htb _ wd_114) (fun _ h9 => h9) rfl d_X_place_1 ?_
  refine lv_iload_n hx hb d_X_place_4 rfl (lv_at hl 1 rfl) ?_
  refine ec_vSi (C := "ExactMesh$Points") (ci := 0) (q := (R_P, T_P, 3)) (q0 := 2) (As := [.int v]) (rest := []) ⟨hx, hb, hml, hown, htb⟩ (c_P_has l dC dI a cI cZ cJ pn px py ln lf lt lr sn sf st sr th hn qx qy mn mc mk mo mr rest v g12) kv_P_has hK hP rfl rfl rfl wd_173 ⟨Nat.le_of_ble_eq_true rfl, Nat.le_of_ble_eq_true rfl⟩ ⟨rfl, rfl⟩ rfl hl.1 rfl (Nat.le_of_ble_eq_true rfl) d_X_place_5 ⟨Nat.zero_le _, Nat.zero_le _⟩ (fun r5 hr5 => ?_)
  replace hr5 : ec_isB r5 (0 ≤ v.toInt ∧ v.toInt < pn) := hr5
  refine ec_if_neB (tgt := 13) hx hb hr5 d_X_place_8 rfl (fun h8 => ?_) (fun h8 => ?_)
  · obtain ⟨i, hi, hi2, rfl⟩ := ec_ofI h8
    refine lv_iload_n hx hb d_X_place_13 rfl (lv_at hl 2 rfl) ?_
    refine lv_if_ne (tgt := 27) hx hb d_X_place_14 rfl (fun h14 => ?_) (fun h14 => ?_)
    · refine lv_iload_n hx hb d_X_place_27 rfl (lv_at hl 2 rfl) ?_
      refine lv_iconst (v := nI 1) hx hb d_X_place_28 (by decide) ?_
      refine lv_icmp_ne (tgt := 44) hx hb d_X_place_29 rfl (fun h29 => ?_) (fun h29 => ?_)
      · refine lv_iconst (v := nI 0) hx hb d_X_place_44 (by decide) ?_
        exact W.iret hx hb hr (fun tS ht hW => ⟨_, rfl, (ec_plaF_2 h14 h29), ht⟩) (fun _ h => nomatch h) d_X_place_45
      · refine lv_aload_n hx hb d_X_place_32 rfl (lv_at hl 0 rfl) ?_
        refine va_get (D := (dC, dI)) (ci := 4) (v := .ref (a 2)) (C := R_X) (T := T_X) (N := 5) hx hb htb in_X hown hK hP 0 rfl rfl 1 (by decide) (htb _ wd_114) (fun _ h9 => h9) rfl d_X_place_33 ?_
        refine va_getN (D := (dC, dI)) (ci := 0) (v := .ref (a 4)) (C := R_P) (T := T_P) (N := 3) hx hb htb in_P hown hK hP 2 rfl rfl 1 (by decide) (htb _ wd_36) (fun _ h9 => h9) rfl d_X_place_36 ?_
        refine lv_iload_n hx hb d_X_place_39 rfl (lv_at hl 1 rfl) ?_
        refine ec_iald (f := py) (i := i) hx hb hK hP 4 0 rfl rfl (by omega) (by decide) d_X_place_40 ?_
        refine lv_goto (tgt := 45) hx hb d_X_place_41 rfl ?_
        exact W.iret hx hb hr (fun tS ht hW => ⟨_, rfl, (ec_plaF_1 hi hi2 h29), ht⟩) (fun _ h => nomatch h) d_X_place_45
    · refine lv_aload_n hx hb d_X_place_17 rfl (lv_at hl 0 rfl) ?_
      refine va_get (D := (dC, dI)) (ci := 4) (v := .ref (a 2)) (C := R_X) (T := T_X) (N := 5) hx hb htb in_X hown hK hP 0 rfl rfl 1 (by decide) (htb _ wd_114) (fun _ h9 => h9) rfl d_X_place_18 ?_
      refine va_getN (D := (dC, dI)) (ci := 0) (v := .ref (a 3)) (C := R_P) (T := T_P) (N := 3) hx hb htb in_P hown hK hP 2 rfl rfl 0 (by decide) (htb _ wd_33) (fun _ h9 => h9) rfl d_X_place_21 ?_
      refine lv_iload_n hx hb d_X_place_24 rfl (lv_at hl 1 rfl) ?_
      refine ec_iald (f := px) (i := i) hx hb hK hP 3 0 rfl rfl (by omega) (by decide) d_X_place_25 ?_
      exact W.iret hx hb hr (fun tS ht hW => ⟨_, rfl, (ec_plaF_0 hi hi2 h14), ht⟩) (fun _ h => nomatch h) d_X_place_26
  · refine lv_iconst (v := nI 0) hx hb d_X_place_11 (by decide) ?_
    exact W.iret hx hb hr (fun tS ht hW => ⟨_, rfl, (ec_plaF_n h8), ht⟩) (fun _ h => nomatch h) d_X_place_12
