set_option maxRecDepth 100000 in
set_option maxHeartbeats 4000000 in
theorem c_M_copyFrom (l : Launch) (dC : Nat → ClassId) (dI : Nat → Nat → Nat) (a : Nat → Nat) (cI cZ cJ : ClassId) (pn : Nat) (px : Nat → Int32) (py : Nat → Int32) (ln : Nat) (lf : Nat → Nat) (lt : Nat → Nat) (lr : Nat → Nat) (sn : Nat) (sf : Nat → Nat) (st : Nat → Nat) (sr : Nat → Nat) (th : Nat → Option Nat) (hn : Nat) (qx : Nat → Int32) (qy : Nat → Int32) (mn : Nat) (mc : Nat → Nat) (mk : Nat → Prop) (mo : Nat → Option Nat) (mr : Nat → Nat) (rest : va_W) (gS : ec_SI pn px py ln lf lt lr) (gF : ec_FM pn px py ln lf lt th) (A : Nat → Prop) (hD : va_D A (wX a cI cZ cJ pn px py ln lf lt lr sn sf st sr th hn qx qy mn mc mk mo mr ++ rest)) : Met l y_M_copyFrom (Cond.code y_M_copyFrom b_M_copyFrom 5 none :: ec_tbl) ({ frames := 2, cells := 0, slots := 0, locals := 80 }) (va_Pc [.ref (a 17), .ref (a 1)] (fun U => va_P (dC, dI) vwCl (wX a cI cZ cJ pn px py ln lf lt lr sn sf st sr th hn qx qy mn mc mk mo mr ++ rest) U.heap ∧ va_K (dC, dI) vwCl (ec_tys cI cZ cJ) U)) (va_Qv (fun (u : Nat × (Nat → Nat) × (Nat → Option Nat) × (Nat → Prop) × (Nat → Nat)) => ec_CM (ge_TF (ec_F th)) u.1 u.2.1 u.2.2.1 u.2.2.2.1 (pn * 12) ∧ ∀ i, i < 12 → u.2.2.2.2 i = lr i) (fun u t => va_P (dC, dI) vwCl (wX a cI cZ cJ pn px py ln lf lt lr sn sf st sr th hn qx qy u.1 u.2.1 u.2.2.2.1 u.2.2.1 u.2.2.2.2 ++ rest) t.heap) A) 0 0 A := by
  refine Met.ofW (cc := b_M_copyFrom) (maxL := 5) (ret := none) (by decide) rfl ?_
  intro p e s m args below meth c s₁ B hml hv0
  obtain ⟨rfl, hP, hK⟩ := hv0
  have hx := B.exec
  have hb := B.bytes
  have hr := B.returns
  have hts := atoms_spec (ws := (Cond.code y_M_copyFrom b_M_copyFrom 5 none :: ec_tbl)) B.pre
  have htb : ∀ w ∈ ec_tbl, w.before _ s = true := fun w h => hts w (List.mem_cons_of_mem _ h)
  clear hts
  have hown : s.vm.findClass "ExactMesh$CarvedMesh" = some m.cls := findClass_of_methodNamed B.named
  have hlocks := B.notSynchronized
  have hl := lv_entry ([.ref (a 17), .ref (a 1)]) (n := 5) (Nat.le_of_ble_eq_true rfl)
  rw [lg_entry_eq]
  generalize (lg_sl ([.ref (a 17), .ref (a 1)]) ++ List.replicate (5 - (lg_sl ([.ref (a 17), .ref (a 1)])).length) Slot.unset).toArray = ls at hl ⊢
  replace hl : lv_has ls 5 [(0, .ref (a 17)), (1, .ref (a 1))] := hl
  refine ec_start (fun H locs hH hlocs => ?_)
  replace hP : va_P (dC, dI) vwCl (wX a cI cZ cJ pn px py ln lf lt lr sn sf st sr th hn qx qy mn mc mk mo mr ++ rest) H := by rw [hH]; exact hP
  have hS : va_S A s.heap H locs := by rw [hH, hlocs]; exact va_S.rf
  clear hH hlocs
  have g12 := gS.1
  have gN := gS.2.1
  have gln := gS.2.2.2.1
  refine lv_aload_n hx hb d_M_copyFrom_0 rfl (lv_at hl 1 rfl) ?_
  refine va_getN (D := (dC, dI)) (ci := 2) (v := .ref (a 5)) (C := R_F) (T := T_F) (N := 4) hx hb htb in_F hown hK hP 1 rfl rfl 1 (by decide) (htb _ wd_75) (fun _ h9 => h9) rfl d_M_copyFrom_1 ?_
  refine va_getN (D := (dC, dI)) (ci := 1) (v := .ref (a 8)) (C := R_L) (T := T_L) (N := 4) hx hb htb in_L hown hK hP 5 rfl rfl 2 (by decide) (htb _ wd_58) (fun _ h9 => h9) rfl d_M_copyFrom_4 ?_
  refine lv_iconst (v := nI 0) hx hb d_M_copyFrom_7 (by decide) ?_
  refine lv_aload_n hx hb d_M_copyFrom_8 rfl (lv_at hl 0 rfl) ?_
  refine va_get (D := (dC, dI)) (ci := 3) (v := .ref (a 21)) (C := R_M) (T := T_M) (N := 5) hx hb htb in_M hown hK hP 17 rfl rfl 3 (by decide) (htb _ wd_98) (fun _ h9 => h9) rfl d_M_copyFrom_9 ?_
  refine lv_iconst (v := nI 0) hx hb d_M_copyFrom_12 (by decide) ?_
  refine lv_bipush (v := nI 12) hx hb d_M_copyFrom_13 (by decide) ?_
  refine ec_copyN (f := lr) (g := mr) (n := 12) hx hb (hml.trans hl.1.symm) hown (htb _ wd_325) (htb _ wd_327) (htb _ wd_326) (htb _ wd_10) hK hP hD hS 8 21 0 rfl rfl rfl (by decide) (by decide) (by decide) (Nat.le_of_ble_eq_true rfl) (Nat.le_of_ble_eq_true rfl) d_M_copyFrom_15 (fun H locs hP hD hS => ?_)
  replace hP : va_P (dC, dI) vwCl (wX a cI cZ cJ pn px py ln lf lt lr sn sf st sr th hn qx qy mn mc mk mo (va_cpy lr mr 0 0 12) ++ rest) H := hP
  replace hD : va_D A (wX a cI cZ cJ pn px py ln lf lt lr sn sf st sr th hn qx qy mn mc mk mo (va_cpy lr mr 0 0 12) ++ rest) := hD
  refine lv_aload_n hx hb d_M_copyFrom_18 rfl (lv_at hl 0 rfl) ?_
  refine ec_vQv (C := "ExactMesh$CarvedMesh") (ci := 3) (q := (R_M, T_M, 5)) (q0 := 17) (As := []) (rest := []) ⟨hx, hb, hml, hown, htb⟩ (c_M_clear l dC dI a cI cZ cJ pn px py ln lf lt lr sn sf st sr th hn qx qy mn mc mk mo (va_cpy lr mr 0 0 12) rest A hD) kv_M_clear hK hP rfl rfl rfl hS wd_328 ⟨Nat.le_of_ble_eq_true rfl, Nat.le_of_ble_eq_true rfl⟩ ⟨rfl, rfl⟩ rfl hl.1 rfl (Nat.le_of_ble_eq_true rfl) d_M_copyFrom_19 ⟨Nat.zero_le _, Nat.zero_le _⟩ (fun ur19 H locs hr19 hP hS => ?_)
  replace hr19 : ∀ j, j < 144 → ur19 j = none := hr19
  replace hP : va_P (dC, dI) vwCl (wX a cI cZ cJ pn px py ln lf lt lr sn sf st sr th hn qx qy 0 mc mk ur19 (va_cpy lr mr 0 0 12) ++ rest) H := hP
  replace hD : va_D A (wX a cI cZ cJ pn px py ln lf lt lr sn sf st sr th hn qx qy 0 mc mk ur19 (va_cpy lr mr 0 0 12) ++ rest) := ec_Dk hD rfl
  refine lv_iconst (v := nI 0) hx hb d_M_copyFrom_22 (by decide) ?_
  refine lv_istore_n hx hb d_M_copyFrom_23 rfl hl (by decide) rfl (fun ls hl => ?_)
  replace hl : lv_has ls 5 [(2, .int (nI 0)), (0, .ref (a 17)), (1, .ref (a 1))] := hl
  obtain ⟨i, e_i⟩ : ∃ z : Nat, z = 0 := ⟨_, rfl⟩
  obtain ⟨vn, e_vn⟩ : ∃ z : Nat, z = 0 := ⟨_, rfl⟩
  obtain ⟨vc, e_vc⟩ : ∃ z : Nat → Nat, z = mc := ⟨_, rfl⟩
  obtain ⟨vo, e_vo⟩ : ∃ z : Nat → Option Nat, z = ur19 := ⟨_, rfl⟩
  obtain ⟨vk, e_vk⟩ : ∃ z : Nat → Prop, z = mk := ⟨_, rfl⟩
  replace hl : lv_has ls 5 [(0, .ref (a 17)), (1, .ref (a 1)), (2, .int (nI i))] := by (try simp only [e_i, e_vn, e_vc, e_vo, e_vk]); exact lv_sub hl [1, 2, 0] rfl
  replace hP : va_P (dC, dI) vwCl (wX a cI cZ cJ pn px py ln lf lt lr sn sf st sr th hn qx qy vn vc vk vo (va_cpy lr mr 0 0 12) ++ rest) H := by (try simp only [e_i, e_vn, e_vc, e_vo, e_vk]); exact hP
  replace hD : va_D A (wX a cI cZ cJ pn px py ln lf lt lr sn sf st sr th hn qx qy vn vc vk vo (va_cpy lr mr 0 0 12) ++ rest) := ec_Dk hD rfl
  have hle : i ≤ pn := by omega
  have hJ : ec_CM (ge_TF (ec_F th)) vn vc vo vk (i * 12) := by simp only [e_i, e_vn, e_vc, e_vo, e_vk]; exact ec_CM_0 hr19
  clear e_vk e_vo e_vc e_vn e_i
  generalize hk24 : pn - i = k24
  induction k24 using Nat.strongRecOn generalizing i vn vc vo vk ls H locs with
  | ind k24 ih24 =>
  refine lv_iload_n hx hb d_M_copyFrom_24 rfl (lv_at hl 2 rfl) ?_
  refine lv_aload_n hx hb d_M_copyFrom_25 rfl (lv_at hl 1 rfl) ?_
  refine va_getN (D := (dC, dI)) (ci := 2) (v := .ref (a 2)) (C := R_F) (T := T_F) (N := 4) hx hb htb in_F hown hK hP 1 rfl rfl 0 (by decide) (htb _ wd_72) (fun _ h9 => h9) rfl d_M_copyFrom_26 ?_
  refine va_getN (D := (dC, dI)) (ci := 0) (v := .int (nI pn)) (C := R_P) (T := T_P) (N := 3) hx hb htb in_P hown hK hP 2 rfl rfl 2 (by decide) (htb _ wd_40) (fun _ h9 => h9) rfl d_M_copyFrom_29 ?_
  refine ec_icmp_ge (tgt := 84) hx hb d_M_copyFrom_32 rfl (by omega) (by omega) (fun h32 => ?_) (fun h32 => ?_)
  · exact W.vret hx hb hr (fun tS ht hW => ⟨⟨(vn, vc, vo, vk, va_cpy lr mr 0 0 12), rfl, ⟨by rw [show pn = i by omega]; exact hJ, fun x hx => by show va_cpy lr mr 0 0 12 x = lr x; rw [pk_cpy_in (by omega) (by omega), Nat.zero_add, Nat.sub_zero]⟩, by show va_P _ _ _ tS.heap; rw [ht]; exact hP⟩, hS.F ht⟩) hS.2.2 d_M_copyFrom_84
  · refine lv_iload_n hx hb d_M_copyFrom_35 rfl (lv_at hl 2 rfl) ?_
    refine lv_iconst (v := nI 1) hx hb d_M_copyFrom_36 (by decide) ?_
    refine ec_iadd hx hb d_M_copyFrom_37 ?_
    refine lv_istore_n hx hb d_M_copyFrom_38 rfl hl (by decide) rfl (fun ls hl => ?_)
    replace hl : lv_has ls 5 [(3, .int (nI (i + 1))), (0, .ref (a 17)), (1, .ref (a 1)), (2, .int (nI i))] := hl
    obtain ⟨j, e_j⟩ : ∃ z : Nat, z = i + 1 := ⟨_, rfl⟩
    obtain ⟨wn, e_wn⟩ : ∃ z : Nat, z = vn := ⟨_, rfl⟩
    obtain ⟨wc, e_wc⟩ : ∃ z : Nat → Nat, z = vc := ⟨_, rfl⟩
    obtain ⟨wo, e_wo⟩ : ∃ z : Nat → Option Nat, z = vo := ⟨_, rfl⟩
    obtain ⟨wk, e_wk⟩ : ∃ z : Nat → Prop, z = vk := ⟨_, rfl⟩
    replace hl : lv_has ls 5 [(0, .ref (a 17)), (1, .ref (a 1)), (2, .int (nI i)), (3, .int (nI j))] := by (try simp only [e_j, e_wn, e_wc, e_wo, e_wk]); exact lv_sub hl [1, 2, 3, 0] rfl
    replace hP : va_P (dC, dI) vwCl (wX a cI cZ cJ pn px py ln lf lt lr sn sf st sr th hn qx qy wn wc wk wo (va_cpy lr mr 0 0 12) ++ rest) H := by (try simp only [e_j, e_wn, e_wc, e_wo, e_wk]); exact hP
    replace hD : va_D A (wX a cI cZ cJ pn px py ln lf lt lr sn sf st sr th hn qx qy wn wc wk wo (va_cpy lr mr 0 0 12) ++ rest) := ec_Dk hD rfl
    have hle2 : j ≤ pn := by omega
    have hij : i < j := by omega
    have hJ2 : ec_CM (ge_TF (ec_F th)) wn wc wo wk (i * 12 + j) := by simp only [e_j, e_wn, e_wc, e_wo, e_wk]; exact ec_CM_i gS gF hJ h32
    clear e_wk e_wo e_wc e_wn e_j
    generalize hk39 : pn - j = k39
    induction k39 using Nat.strongRecOn generalizing j wn wc wo wk ls H locs with
    | ind k39 ih39 =>
    refine lv_iload_n hx hb d_M_copyFrom_39 rfl (lv_at hl 3 rfl) ?_
    refine lv_aload_n hx hb d_M_copyFrom_40 rfl (lv_at hl 1 rfl) ?_
    refine va_getN (D := (dC, dI)) (ci := 2) (v := .ref (a 2)) (C := R_F) (T := T_F) (N := 4) hx hb htb in_F hown hK hP 1 rfl rfl 0 (by decide) (htb _ wd_72) (fun _ h9 => h9) rfl d_M_copyFrom_41 ?_
    refine va_getN (D := (dC, dI)) (ci := 0) (v := .int (nI pn)) (C := R_P) (T := T_P) (N := 3) hx hb htb in_P hown hK hP 2 rfl rfl 2 (by decide) (htb _ wd_40) (fun _ h9 => h9) rfl d_M_copyFrom_44 ?_
    refine ec_icmp_ge (tgt := 78) hx hb d_M_copyFrom_47 rfl (by omega) (by omega) (fun h47 => ?_) (fun h47 => ?_)
    · refine ec_iinc (k := 2) hx hb d_M_copyFrom_78 hl rfl (by decide) rfl (fun ls hl => ?_)
      replace hl : lv_has ls 5 [(2, .int (nI (i + 1))), (0, .ref (a 17)), (1, .ref (a 1)), (3, .int (nI j))] := hl
      refine lv_goto (tgt := 24) hx hb d_M_copyFrom_81 rfl ?_
      exact ih24 _ (by omega) (i := i + 1) (vn := wn) (vc := wc) (vo := wo) (vk := wk) (ls := ls) (H := H) (locs := locs) (hS := hS) (hl := lv_sub hl [1, 2, 0] rfl) (hP := hP) (hD := hD) (hle := (by omega)) (hJ := (ec_CM_row gS gF hJ2 h47 (by omega))) (hk24 := rfl)
    · refine lv_aload_n hx hb d_M_copyFrom_50 rfl (lv_at hl 1 rfl) ?_
      refine lv_iload_n hx hb d_M_copyFrom_51 rfl (lv_at hl 2 rfl) ?_
      refine lv_iload_n hx hb d_M_copyFrom_52 rfl (lv_at hl 3 rfl) ?_
      refine ec_vSi (C := "ExactMesh$FullMesh") (ci := 2) (q := (R_F, T_F, 4)) (q0 := 1) (As := [.int (nI i), .int (nI j)]) (rest := []) ⟨hx, hb, hml, hown, htb⟩ (c_F_thirdOf l dC dI a cI cZ cJ pn px py ln lf lt lr sn sf st sr th hn qx qy wn wc wk wo (va_cpy lr mr 0 0 12) rest i j (by omega) (by omega)) kv_F_thirdOf hK hP rfl rfl rfl wd_333 ⟨Nat.le_of_ble_eq_true rfl, Nat.le_of_ble_eq_true rfl⟩ ⟨rfl, rfl⟩ rfl hl.1 rfl (Nat.le_of_ble_eq_true rfl) d_M_copyFrom_53 ⟨Nat.zero_le _, Nat.zero_le _⟩ (fun r53 hr53 => ?_)
      replace hr53 : r53 = ec_oi (th (i * 12 + j)) := hr53
      subst hr53
      refine lv_istore hx hb d_M_copyFrom_56 hl (by decide) rfl (fun ls hl => ?_)
      replace hl : lv_has ls 5 [(4, .int (ec_oi (th (i * 12 + j)))), (0, .ref (a 17)), (1, .ref (a 1)), (2, .int (nI i)), (3, .int (nI j))] := hl
      generalize hqvz : th (i * 12 + j) = ovz at hl ⊢
      cases ovz with
      | none =>
        replace hl : lv_has ls 5 [(4, .int (-1)), (0, .ref (a 17)), (1, .ref (a 1)), (2, .int (nI i)), (3, .int (nI j))] := hl
        refine lv_iload hx hb d_M_copyFrom_58 (lv_at hl 0 rfl) ?_
        refine lv_iload_n hx hb d_M_copyFrom_60 rfl (lv_at hl 3 rfl) ?_
        refine lv_icmp_le (tgt := 72) hx hb d_M_copyFrom_61 rfl (fun h61 => ?_) (fun h61 => ?_)
        · refine ec_iinc (k := 4) hx hb d_M_copyFrom_72 hl rfl (by decide) rfl (fun ls hl => ?_)
          replace hl : lv_has ls 5 [(3, .int (nI (j + 1))), (4, .int (-1)), (0, .ref (a 17)), (1, .ref (a 1)), (2, .int (nI i))] := hl
          refine lv_goto (tgt := 39) hx hb d_M_copyFrom_75 rfl ?_
          exact ih39 _ (by omega) (j := j + 1) (wn := wn) (wc := wc) (wo := wo) (wk := wk) (ls := ls) (H := H) (locs := locs) (hS := hS) (hl := lv_sub hl [2, 3, 4, 0] rfl) (hP := hP) (hD := hD) (hle2 := (by omega)) (hij := (by omega)) (hJ2 := (ec_CM_no gS gF hJ2 (by omega) h47 (fun z q => by rw [hqvz] at q; cases q))) (hk39 := rfl)
        · first | exact absurd rfl h61 | exact absurd h61 (by decide) | exact absurd h61 (ec_m1_ne (by omega)) | exact absurd (ec_m1_lt (by omega)) h61 | exact absurd (ec_m1_le (by omega)) h61 | exact absurd h61 (ec_m1_nlt (by omega)) | exact absurd h61 (ec_m1_nle (by omega))
      | some vz =>
        replace hl : lv_has ls 5 [(4, .int (nI vz)), (0, .ref (a 17)), (1, .ref (a 1)), (2, .int (nI i)), (3, .int (nI j))] := hl
        have hzl := ec_G_lt gF.1 (x := i) (y := j) (z := vz) (by rw [ec_F_in (by omega) (by omega)]; exact hqvz)
        refine lv_iload hx hb d_M_copyFrom_58 (lv_at hl 0 rfl) ?_
        refine lv_iload_n hx hb d_M_copyFrom_60 rfl (lv_at hl 3 rfl) ?_
        refine ec_icmp_le (tgt := 72) hx hb d_M_copyFrom_61 rfl (by omega) (by omega) (fun h61_1 => ?_) (fun h61_1 => ?_)
        · refine ec_iinc (k := 4) hx hb d_M_copyFrom_72 hl rfl (by decide) rfl (fun ls hl => ?_)
          replace hl : lv_has ls 5 [(3, .int (nI (j + 1))), (4, .int (nI vz)), (0, .ref (a 17)), (1, .ref (a 1)), (2, .int (nI i))] := hl
          refine lv_goto (tgt := 39) hx hb d_M_copyFrom_75 rfl ?_
          exact ih39 _ (by omega) (j := j + 1) (wn := wn) (wc := wc) (wo := wo) (wk := wk) (ls := ls) (H := H) (locs := locs) (hS := hS) (hl := lv_sub hl [2, 3, 4, 0] rfl) (hP := hP) (hD := hD) (hle2 := (by omega)) (hij := (by omega)) (hJ2 := (ec_CM_no gS gF hJ2 (by omega) h47 (fun z q => by rw [hqvz] at q; cases q; exact h61_1))) (hk39 := rfl)
        · have hadd := ec_CM_add gS gF hJ2 hij h47 hqvz h61_1
          refine lv_aload_n hx hb d_M_copyFrom_64 rfl (lv_at hl 1 rfl) ?_
          refine lv_iload_n hx hb d_M_copyFrom_65 rfl (lv_at hl 3 rfl) ?_
          refine lv_iload_n hx hb d_M_copyFrom_66 rfl (lv_at hl 4 rfl) ?_
          refine lv_iload hx hb d_M_copyFrom_67 (lv_at hl 0 rfl) ?_
          refine ec_vQv (C := "ExactMesh$CarvedMesh") (ci := 3) (q := (R_M, T_M, 5)) (q0 := 17) (As := [.int (nI i), .int (nI j), .int (nI vz)]) (rest := []) ⟨hx, hb, hml, hown, htb⟩ (c_M_add l dC dI a cI cZ cJ pn px py ln lf lt lr sn sf st sr th hn qx qy wn wc wk wo (va_cpy lr mr 0 0 12) rest i j vz hadd.1 (by omega) (by omega) (by omega) A hD) kv_M_add hK hP rfl rfl rfl hS wd_334 ⟨Nat.le_of_ble_eq_true rfl, Nat.le_of_ble_eq_true rfl⟩ ⟨rfl, rfl⟩ rfl hl.1 rfl (Nat.le_of_ble_eq_true rfl) d_M_copyFrom_69 ⟨Nat.zero_le _, Nat.zero_le _⟩ (fun ur69 H locs hr69 hP hS => ?_)
          replace hr69 : ur69 = () := hr69
          replace hP : va_P (dC, dI) vwCl (wX a cI cZ cJ pn px py ln lf lt lr sn sf st sr th hn qx qy (wn + 1) (ec_tc wc wn i j vz) (va_up wk wn False) (ec_to wo wn i j vz) (va_cpy lr mr 0 0 12) ++ rest) H := hP
          replace hD : va_D A (wX a cI cZ cJ pn px py ln lf lt lr sn sf st sr th hn qx qy (wn + 1) (ec_tc wc wn i j vz) (va_up wk wn False) (ec_to wo wn i j vz) (va_cpy lr mr 0 0 12) ++ rest) := ec_Dk hD rfl
          refine ec_iinc (k := 4) hx hb d_M_copyFrom_72 hl rfl (by decide) rfl (fun ls hl => ?_)
          replace hl : lv_has ls 5 [(3, .int (nI (j + 1))), (4, .int (nI vz)), (0, .ref (a 17)), (1, .ref (a 1)), (2, .int (nI i))] := hl
          refine lv_goto (tgt := 39) hx hb d_M_copyFrom_75 rfl ?_
          exact ih39 _ (by omega) (j := j + 1) (wn := wn + 1) (wc := ec_tc wc wn i j vz) (wo := ec_to wo wn i j vz) (wk := va_up wk wn False) (ls := ls) (H := H) (locs := locs) (hS := hS) (hl := lv_sub hl [2, 3, 4, 0] rfl) (hP := hP) (hD := hD) (hle2 := (by omega)) (hij := (by omega)) (hJ2 := hadd.2) (hk39 := rfl)

set_option maxRecDepth 100000 in
set_option maxHeartbeats 4000000 in
theorem c_M_markHoles (l : Launch) (dC : Nat → ClassId) (dI : Nat → Nat → Nat) (a : Nat → Nat) (cI cZ cJ : ClassId) (pn : Nat) (px : Nat → Int32) (py : Nat → Int32) (ln : Nat) (lf : Nat → Nat) (lt : Nat → Nat) (lr : Nat → Nat) (sn : Nat) (sf : Nat → Nat) (st : Nat → Nat) (sr : Nat → Nat) (th : Nat → Option Nat) (hn : Nat) (qx : Nat → Int32) (qy : Nat → Int32) (mn : Nat) (mc : Nat → Nat) (mk : Nat → Prop) (mo : Nat → Option Nat) (mr : Nat → Nat) (rest : va_W) (g12 : pn ≤ 12) (gN : ∀ i, i < pn → ec_near (px i) ∧ ec_near (py i)) (g3 : hn ≤ 3) (gM : ec_MI pn mn mc mo mr) (A : Nat → Prop) (hD : va_D A (wX a cI cZ cJ pn px py ln lf lt lr sn sf st sr th hn qx qy mn mc mk mo mr ++ rest)) : Met l y_M_markHoles (Cond.code y_M_markHoles b_M_markHoles 5 none :: ec_tbl) ({ frames := 3, cells := 0, slots := 0, locals := 69 }) (va_Pc [.ref (a 17), .ref (a 2), .ref (a 14)] (fun U => va_P (dC, dI) vwCl (wX a cI cZ cJ pn px py ln lf lt lr sn sf st sr th hn qx qy mn mc mk mo mr ++ rest) U.heap ∧ va_K (dC, dI) vwCl (ec_tys cI cZ cJ) U)) (va_Qv (fun (u : Nat → Prop) => ec_MH mn mk (fun u x => ec_hold px py mc u (qx x) (qy x)) u hn 0) (fun u t => va_P (dC, dI) vwCl (wX a cI cZ cJ pn px py ln lf lt lr sn sf st sr th hn qx qy mn mc u mo mr ++ rest) t.heap) A) 0 0 A := by
  refine Met.ofW (cc := b_M_markHoles) (maxL := 5) (ret := none) (by decide) rfl ?_
  intro p e s m args below meth c s₁ B hml hv0
  obtain ⟨rfl, hP, hK⟩ := hv0
  have hx := B.exec
  have hb := B.bytes
  have hr := B.returns
  have hts := atoms_spec (ws := (Cond.code y_M_markHoles b_M_markHoles 5 none :: ec_tbl)) B.pre
  have htb : ∀ w ∈ ec_tbl, w.before _ s = true := fun w h => hts w (List.mem_cons_of_mem _ h)
  clear hts
  have hown : s.vm.findClass "ExactMesh$CarvedMesh" = some m.cls := findClass_of_methodNamed B.named
  have hlocks := B.notSynchronized
  have hl := lv_entry ([.ref (a 17), .ref (a 2), .ref (a 14)]) (n := 5) (Nat.le_of_ble_eq_true rfl)
  rw [lg_entry_eq]
  generalize (lg_sl ([.ref (a 17), .ref (a 2), .ref (a 14)]) ++ List.replicate (5 - (lg_sl ([.ref (a 17), .ref (a 2), .ref (a 14)])).length) Slot.unset).toArray = ls at hl ⊢
  replace hl : lv_has ls 5 [(0, .ref (a 17)), (1, .ref (a 2)), (2, .ref (a 14))] := hl
  refine ec_start (fun H locs hH hlocs => ?_)
  replace hP : va_P (dC, dI) vwCl (wX a cI cZ cJ pn px py ln lf lt lr sn sf st sr th hn qx qy mn mc mk mo mr ++ rest) H := by rw [hH]; exact hP
  have hS : va_S A s.heap H locs := by rw [hH, hlocs]; exact va_S.rf
  clear hH hlocs
  have gmn := gM.1
  have gmc := gM.2.1
  have gow := gM.2.2.1
  have gmr := gM.2.2.2
  refine lv_iconst (v := nI 0) hx hb d_M_markHoles_0 (by decide) ?_
  refine lv_istore_n hx hb d_M_markHoles_1 rfl hl (by decide) rfl (fun ls hl => ?_)
  replace hl : lv_has ls 5 [(3, .int (nI 0)), (0, .ref (a 17)), (1, .ref (a 2)), (2, .ref (a 14))] := hl
  obtain ⟨h, e_h⟩ : ∃ z : Nat, z = 0 := ⟨_, rfl⟩
  obtain ⟨g, e_g⟩ : ∃ z : Nat → Prop, z = mk := ⟨_, rfl⟩
  replace hl : lv_has ls 5 [(0, .ref (a 17)), (1, .ref (a 2)), (2, .ref (a 14)), (3, .int (nI h))] := by (try simp only [e_h, e_g]); exact lv_sub hl [1, 2, 3, 0] rfl
  replace hP : va_P (dC, dI) vwCl (wX a cI cZ cJ pn px py ln lf lt lr sn sf st sr th hn qx qy mn mc g mo mr ++ rest) H := by (try simp only [e_h, e_g]); exact hP
  replace hD : va_D A (wX a cI cZ cJ pn px py ln lf lt lr sn sf st sr th hn qx qy mn mc g mo mr ++ rest) := ec_Dk hD rfl
  have hle : h ≤ hn := by omega
  have hJ : ec_MH mn mk (fun u x => ec_hold px py mc u (qx x) (qy x)) g h 0 := by simp only [e_h, e_g]; exact ec_MH_0
  clear e_g e_h
  generalize hk2 : hn - h = k2
  induction k2 using Nat.strongRecOn generalizing h g ls H locs with
  | ind k2 ih2 =>
  refine lv_iload_n hx hb d_M_markHoles_2 rfl (lv_at hl 3 rfl) ?_
  refine lv_aload_n hx hb d_M_markHoles_3 rfl (lv_at hl 2 rfl) ?_
  refine va_getN (D := (dC, dI)) (ci := 0) (v := .int (nI hn)) (C := R_P) (T := T_P) (N := 3) hx hb htb in_P hown hK hP 14 rfl rfl 2 (by decide) (htb _ wd_40) (fun _ h9 => h9) rfl d_M_markHoles_4 ?_
  refine ec_icmp_ge (tgt := 64) hx hb d_M_markHoles_7 rfl (by omega) (by omega) (fun h7 => ?_) (fun h7 => ?_)
  · exact W.vret hx hb hr (fun tS ht hW => ⟨⟨g, rfl, (by rw [show hn = h by omega]; exact hJ), by show va_P _ _ _ tS.heap; rw [ht]; exact hP⟩, hS.F ht⟩) hS.2.2 d_M_markHoles_64
  · refine lv_iconst (v := nI 0) hx hb d_M_markHoles_10 (by decide) ?_
    refine lv_istore hx hb d_M_markHoles_11 hl (by decide) rfl (fun ls hl => ?_)
    replace hl : lv_has ls 5 [(4, .int (nI 0)), (0, .ref (a 17)), (1, .ref (a 2)), (2, .ref (a 14)), (3, .int (nI h))] := hl
    obtain ⟨t, e_t⟩ : ∃ z : Nat, z = 0 := ⟨_, rfl⟩
    obtain ⟨f, e_f⟩ : ∃ z : Nat → Prop, z = g := ⟨_, rfl⟩
    replace hl : lv_has ls 5 [(0, .ref (a 17)), (1, .ref (a 2)), (2, .ref (a 14)), (3, .int (nI h)), (4, .int (nI t))] := by (try simp only [e_t, e_f]); exact lv_sub hl [1, 2, 3, 4, 0] rfl
    replace hP : va_P (dC, dI) vwCl (wX a cI cZ cJ pn px py ln lf lt lr sn sf st sr th hn qx qy mn mc f mo mr ++ rest) H := by (try simp only [e_t, e_f]); exact hP
    replace hD : va_D A (wX a cI cZ cJ pn px py ln lf lt lr sn sf st sr th hn qx qy mn mc f mo mr ++ rest) := ec_Dk hD rfl
    have hle2 : t ≤ mn := by omega
    have hJ2 : ec_MH mn mk (fun u x => ec_hold px py mc u (qx x) (qy x)) f h t := by simp only [e_t, e_f]; exact hJ
    clear e_f e_t
    generalize hk13 : mn - t = k13
    induction k13 using Nat.strongRecOn generalizing t f ls H locs with
    | ind k13 ih13 =>
    refine lv_iload hx hb d_M_markHoles_13 (lv_at hl 4 rfl) ?_
    refine lv_aload_n hx hb d_M_markHoles_15 rfl (lv_at hl 0 rfl) ?_
    refine va_get (D := (dC, dI)) (ci := 3) (v := .int (nI mn)) (C := R_M) (T := T_M) (N := 5) hx hb htb in_M hown hK hP 17 rfl rfl 4 (by decide) (htb _ wd_99) (fun _ h9 => h9) rfl d_M_markHoles_16 ?_
    refine ec_icmp_ge (tgt := 58) hx hb d_M_markHoles_19 rfl (by omega) (by omega) (fun h19 => ?_) (fun h19 => ?_)
    · refine ec_iinc (k := 3) hx hb d_M_markHoles_58 hl rfl (by decide) rfl (fun ls hl => ?_)
      replace hl : lv_has ls 5 [(3, .int (nI (h + 1))), (0, .ref (a 17)), (1, .ref (a 2)), (2, .ref (a 14)), (4, .int (nI t))] := hl
      refine lv_goto (tgt := 2) hx hb d_M_markHoles_61 rfl ?_
      exact ih2 _ (by omega) (h := h + 1) (g := f) (ls := ls) (H := H) (locs := locs) (hS := hS) (hl := lv_sub hl [1, 2, 3, 0] rfl) (hP := hP) (hD := hD) (hle := (by omega)) (hJ := (ec_MH_row hJ2 h19)) (hk2 := rfl)
    · refine lv_aload_n hx hb d_M_markHoles_22 rfl (lv_at hl 0 rfl) ?_
      refine lv_aload_n hx hb d_M_markHoles_23 rfl (lv_at hl 1 rfl) ?_
      refine lv_iload hx hb d_M_markHoles_24 (lv_at hl 4 rfl) ?_
      refine lv_aload_n hx hb d_M_markHoles_26 rfl (lv_at hl 2 rfl) ?_
      refine va_getN (D := (dC, dI)) (ci := 0) (v := .ref (a 15)) (C := R_P) (T := T_P) (N := 3) hx hb htb in_P hown hK hP 14 rfl rfl 0 (by decide) (htb _ wd_32) (fun _ h9 => h9) rfl d_M_markHoles_27 ?_
      refine lv_iload_n hx hb d_M_markHoles_30 rfl (lv_at hl 3 rfl) ?_
      refine ec_iald (f := qx) (i := h) hx hb hK hP 15 0 rfl rfl (by omega) (by decide) d_M_markHoles_31 ?_
      refine lv_aload_n hx hb d_M_markHoles_32 rfl (lv_at hl 2 rfl) ?_
      refine va_getN (D := (dC, dI)) (ci := 0) (v := .ref (a 16)) (C := R_P) (T := T_P) (N := 3) hx hb htb in_P hown hK hP 14 rfl rfl 1 (by decide) (htb _ wd_35) (fun _ h9 => h9) rfl d_M_markHoles_33 ?_
      refine lv_iload_n hx hb d_M_markHoles_36 rfl (lv_at hl 3 rfl) ?_
      refine ec_iald (f := qy) (i := h) hx hb hK hP 16 0 rfl rfl (by omega) (by decide) d_M_markHoles_37 ?_
      refine ec_vSi (C := "ExactMesh$CarvedMesh") (ci := 3) (q := (R_M, T_M, 5)) (q0 := 17) (As := [.ref (a 2), .int (nI t), .int (qx h), .int (qy h)]) (rest := []) ⟨hx, hb, hml, hown, htb⟩ (c_M_holds l dC dI a cI cZ cJ pn px py ln lf lt lr sn sf st sr th hn qx qy mn mc f mo mr rest t (qx h) (qy h) g12 gN gM (by omega)) kv_M_holds hK hP rfl rfl rfl wd_342 ⟨Nat.le_of_ble_eq_true rfl, Nat.le_of_ble_eq_true rfl⟩ ⟨rfl, rfl⟩ rfl hl.1 rfl (Nat.le_of_ble_eq_true rfl) d_M_markHoles_38 ⟨Nat.zero_le _, Nat.zero_le _⟩ (fun r38 hr38 => ?_)
      replace hr38 : ec_isB r38 (ec_hold px py mc t (qx h) (qy h)) := hr38
      refine ec_if_eqB (tgt := 52) hx hb hr38 d_M_markHoles_41 rfl (fun h41 => ?_) (fun h41 => ?_)
      · refine ec_iinc (k := 4) hx hb d_M_markHoles_52 hl rfl (by decide) rfl (fun ls hl => ?_)
        replace hl : lv_has ls 5 [(4, .int (nI (t + 1))), (0, .ref (a 17)), (1, .ref (a 2)), (2, .ref (a 14)), (3, .int (nI h))] := hl
        refine lv_goto (tgt := 13) hx hb d_M_markHoles_55 rfl ?_
        exact ih13 _ (by omega) (t := t + 1) (f := f) (ls := ls) (H := H) (locs := locs) (hS := hS) (hl := lv_sub hl [1, 2, 3, 4, 0] rfl) (hP := hP) (hD := hD) (hle2 := (by omega)) (hJ2 := (ec_MH_no hJ2 h41)) (hk13 := rfl)
      · refine lv_aload_n hx hb d_M_markHoles_44 rfl (lv_at hl 0 rfl) ?_
        refine va_get (D := (dC, dI)) (ci := 3) (v := .ref (a 19)) (C := R_M) (T := T_M) (N := 5) hx hb htb in_M hown hK hP 17 rfl rfl 1 (by decide) (htb _ wd_96) (fun _ h9 => h9) rfl d_M_markHoles_45 ?_
        refine lv_iload hx hb d_M_markHoles_48 (lv_at hl 4 rfl) ?_
        refine lv_iconst (v := nI 1) hx hb d_M_markHoles_50 (by decide) ?_
        refine ec_zastZ (f := f) (i := t) (x := True) hx hb hK hP hD hS 19 1 rfl rfl (ec_bp_t trivial).symm (by omega) (by decide) d_M_markHoles_51 (fun H locs hP hD hS => ?_)
        replace hP : va_P (dC, dI) vwCl (wX a cI cZ cJ pn px py ln lf lt lr sn sf st sr th hn qx qy mn mc (va_up f t True) mo mr ++ rest) H := hP
        replace hD : va_D A (wX a cI cZ cJ pn px py ln lf lt lr sn sf st sr th hn qx qy mn mc (va_up f t True) mo mr ++ rest) := hD
        refine ec_iinc (k := 4) hx hb d_M_markHoles_52 hl rfl (by decide) rfl (fun ls hl => ?_)
        replace hl : lv_has ls 5 [(4, .int (nI (t + 1))), (0, .ref (a 17)), (1, .ref (a 2)), (2, .ref (a 14)), (3, .int (nI h))] := hl
        refine lv_goto (tgt := 13) hx hb d_M_markHoles_55 rfl ?_
        exact ih13 _ (by omega) (t := t + 1) (f := va_up f t True) (ls := ls) (H := H) (locs := locs) (hS := hS) (hl := lv_sub hl [1, 2, 3, 4, 0] rfl) (hP := hP) (hD := hD) (hle2 := (by omega)) (hJ2 := (ec_MH_yes hJ2 h41)) (hk13 := rfl)

set_option maxRecDepth 100000 in
set_option maxHeartbeats 4000000 in
theorem c_M_markOutside (l : Launch) (dC : Nat → ClassId) (dI : Nat → Nat → Nat) (a : Nat → Nat) (cI cZ cJ : ClassId) (pn : Nat) (px : Nat → Int32) (py : Nat → Int32) (ln : Nat) (lf : Nat → Nat) (lt : Nat → Nat) (lr : Nat → Nat) (sn : Nat) (sf : Nat → Nat) (st : Nat → Nat) (sr : Nat → Nat) (th : Nat → Option Nat) (hn : Nat) (qx : Nat → Int32) (qy : Nat → Int32) (mn : Nat) (mc : Nat → Nat) (mk : Nat → Prop) (mo : Nat → Option Nat) (mr : Nat → Nat) (rest : va_W) (g12 : pn ≤ 12) (gM : ec_MI pn mn mc mo mr) (A : Nat → Prop) (hD : va_D A (wX a cI cZ cJ pn px py ln lf lt lr sn sf st sr th hn qx qy mn mc mk mo mr ++ rest)) : Met l y_M_markOutside (Cond.code y_M_markOutside b_M_markOutside 3 none :: ec_tbl) ({ frames := 3, cells := 0, slots := 0, locals := 66 }) (va_Pc [.ref (a 17)] (fun U => va_P (dC, dI) vwCl (wX a cI cZ cJ pn px py ln lf lt lr sn sf st sr th hn qx qy mn mc mk mo mr ++ rest) U.heap ∧ va_K (dC, dI) vwCl (ec_tys cI cZ cJ) U)) (va_Qv (fun (u : Nat → Prop) => ec_MO mn mk (ec_opens mc mo mr) u mn 0) (fun u t => va_P (dC, dI) vwCl (wX a cI cZ cJ pn px py ln lf lt lr sn sf st sr th hn qx qy mn mc u mo mr ++ rest) t.heap) A) 0 0 A := by
  refine Met.ofW (cc := b_M_markOutside) (maxL := 3) (ret := none) (by decide) rfl ?_
  intro p e s m args below meth c s₁ B hml hv0
  obtain ⟨rfl, hP, hK⟩ := hv0
  have hx := B.exec
  have hb := B.bytes
  have hr := B.returns
  have hts := atoms_spec (ws := (Cond.code y_M_markOutside b_M_markOutside 3 none :: ec_tbl)) B.pre
  have htb : ∀ w ∈ ec_tbl, w.before _ s = true := fun w h => hts w (List.mem_cons_of_mem _ h)
  clear hts
  have hown : s.vm.findClass "ExactMesh$CarvedMesh" = some m.cls := findClass_of_methodNamed B.named
  have hlocks := B.notSynchronized
  have hl := lv_entry ([.ref (a 17)]) (n := 3) (Nat.le_of_ble_eq_true rfl)
  rw [lg_entry_eq]
  generalize (lg_sl ([.ref (a 17)]) ++ List.replicate (3 - (lg_sl ([.ref (a 17)])).length) Slot.unset).toArray = ls at hl ⊢
  replace hl : lv_has ls 3 [(0, .ref (a 17))] := hl
  refine ec_start (fun H locs hH hlocs => ?_)
  replace hP : va_P (dC, dI) vwCl (wX a cI cZ cJ pn px py ln lf lt lr sn sf st sr th hn qx qy mn mc mk mo mr ++ rest) H := by rw [hH]; exact hP
  have hS : va_S A s.heap H locs := by rw [hH, hlocs]; exact va_S.rf
  clear hH hlocs
  have gmn := gM.1
  have gmc := gM.2.1
  have gow := gM.2.2.1
  have gmr := gM.2.2.2
  refine lv_iconst (v := nI 0) hx hb d_M_markOutside_0 (by decide) ?_
  refine lv_istore_n hx hb d_M_markOutside_1 rfl hl (by decide) rfl (fun ls hl => ?_)
  replace hl : lv_has ls 3 [(1, .int (nI 0)), (0, .ref (a 17))] := hl
  obtain ⟨t, e_t⟩ : ∃ z : Nat, z = 0 := ⟨_, rfl⟩
  obtain ⟨g, e_g⟩ : ∃ z : Nat → Prop, z = mk := ⟨_, rfl⟩
  replace hl : lv_has ls 3 [(0, .ref (a 17)), (1, .int (nI t))] := by (try simp only [e_t, e_g]); exact lv_sub hl [1, 0] rfl
  replace hP : va_P (dC, dI) vwCl (wX a cI cZ cJ pn px py ln lf lt lr sn sf st sr th hn qx qy mn mc g mo mr ++ rest) H := by (try simp only [e_t, e_g]); exact hP
  replace hD : va_D A (wX a cI cZ cJ pn px py ln lf lt lr sn sf st sr th hn qx qy mn mc g mo mr ++ rest) := ec_Dk hD rfl
  have hle : t ≤ mn := by omega
  have hJ : ec_MO mn mk (ec_opens mc mo mr) g t 0 := by simp only [e_t, e_g]; exact ec_MO_0
  clear e_g e_t
  generalize hk2 : mn - t = k2
  induction k2 using Nat.strongRecOn generalizing t g ls H locs with
  | ind k2 ih2 =>
  refine lv_iload_n hx hb d_M_markOutside_2 rfl (lv_at hl 1 rfl) ?_
  refine lv_aload_n hx hb d_M_markOutside_3 rfl (lv_at hl 0 rfl) ?_
  refine va_get (D := (dC, dI)) (ci := 3) (v := .int (nI mn)) (C := R_M) (T := T_M) (N := 5) hx hb htb in_M hown hK hP 17 rfl rfl 4 (by decide) (htb _ wd_99) (fun _ h9 => h9) rfl d_M_markOutside_4 ?_
  refine ec_icmp_ge (tgt := 55) hx hb d_M_markOutside_7 rfl (by omega) (by omega) (fun h7 => ?_) (fun h7 => ?_)
  · exact W.vret hx hb hr (fun tS ht hW => ⟨⟨g, rfl, (ec_MO_c hJ (by omega)), by show va_P _ _ _ tS.heap; rw [ht]; exact hP⟩, hS.F ht⟩) hS.2.2 d_M_markOutside_55
  · refine lv_iconst (v := nI 0) hx hb d_M_markOutside_10 (by decide) ?_
    refine lv_istore_n hx hb d_M_markOutside_11 rfl hl (by decide) rfl (fun ls hl => ?_)
    replace hl : lv_has ls 3 [(2, .int (nI 0)), (0, .ref (a 17)), (1, .int (nI t))] := hl
    obtain ⟨k, e_k⟩ : ∃ z : Nat, z = 0 := ⟨_, rfl⟩
    obtain ⟨f, e_f⟩ : ∃ z : Nat → Prop, z = g := ⟨_, rfl⟩
    replace hl : lv_has ls 3 [(0, .ref (a 17)), (1, .int (nI t)), (2, .int (nI k))] := by (try simp only [e_k, e_f]); exact lv_sub hl [1, 2, 0] rfl
    replace hP : va_P (dC, dI) vwCl (wX a cI cZ cJ pn px py ln lf lt lr sn sf st sr th hn qx qy mn mc f mo mr ++ rest) H := by (try simp only [e_k, e_f]); exact hP
    replace hD : va_D A (wX a cI cZ cJ pn px py ln lf lt lr sn sf st sr th hn qx qy mn mc f mo mr ++ rest) := ec_Dk hD rfl
    have hle2 : k ≤ 3 := by omega
    have hJ2 : ec_MO mn mk (ec_opens mc mo mr) f t k := by simp only [e_k, e_f]; exact hJ
    clear e_f e_k
    generalize hk12 : 3 - k = k12
    induction k12 using Nat.strongRecOn generalizing k f ls H locs with
    | ind k12 ih12 =>
    refine lv_iload_n hx hb d_M_markOutside_12 rfl (lv_at hl 2 rfl) ?_
    refine lv_iconst (v := nI 3) hx hb d_M_markOutside_13 (by decide) ?_
    refine ec_icmp_ge (tgt := 49) hx hb d_M_markOutside_14 rfl (by omega) (by omega) (fun h14 => ?_) (fun h14 => ?_)
    · refine ec_iinc (k := 1) hx hb d_M_markOutside_49 hl rfl (by decide) rfl (fun ls hl => ?_)
      replace hl : lv_has ls 3 [(1, .int (nI (t + 1))), (0, .ref (a 17)), (2, .int (nI k))] := hl
      refine lv_goto (tgt := 2) hx hb d_M_markOutside_52 rfl ?_
      exact ih2 _ (by omega) (t := t + 1) (g := f) (ls := ls) (H := H) (locs := locs) (hS := hS) (hl := lv_sub hl [1, 0] rfl) (hP := hP) (hD := hD) (hle := (by omega)) (hJ := (ec_MO_row hJ2 (by omega))) (hk2 := rfl)
    · have q0 := gmc (3 * t + k) (by omega)
      have q1 := gmc (3 * t + ec_nx k) (by have := ec_nx_lt (k := k) (by omega); omega)
      refine lv_aload_n hx hb d_M_markOutside_17 rfl (lv_at hl 0 rfl) ?_
      refine lv_iload_n hx hb d_M_markOutside_18 rfl (lv_at hl 1 rfl) ?_
      refine lv_iload_n hx hb d_M_markOutside_19 rfl (lv_at hl 2 rfl) ?_
      refine ec_vSi (C := "ExactMesh$CarvedMesh") (ci := 3) (q := (R_M, T_M, 5)) (q0 := 17) (As := [.int (nI t), .int (nI k)]) (rest := []) ⟨hx, hb, hml, hown, htb⟩ (c_M_beyond l dC dI a cI cZ cJ pn px py ln lf lt lr sn sf st sr th hn qx qy mn mc f mo mr rest t k g12 gM (by omega) (by omega)) kv_M_beyond hK hP rfl rfl rfl wd_359 ⟨Nat.le_of_ble_eq_true rfl, Nat.le_of_ble_eq_true rfl⟩ ⟨rfl, rfl⟩ rfl hl.1 rfl (Nat.le_of_ble_eq_true rfl) d_M_markOutside_20 ⟨Nat.zero_le _, Nat.zero_le _⟩ (fun r20 hr20 => ?_)
      replace hr20 : r20 = ec_oi (ec_bey mc mo t k) := hr20
      subst hr20
      refine lv_iconst (v := -1) hx hb d_M_markOutside_23 (by decide) ?_
      refine ec_icmp_neO (o := ec_bey mc mo t k) (tgt := 43) hx hb (fun j q => by have := ec_Ow_lt (gow (by omega)) (by omega) (by omega) q; omega) d_M_markOutside_24 rfl (fun h24 => ?_) (fun h24 => ?_)
      · refine ec_iinc (k := 2) hx hb d_M_markOutside_43 hl rfl (by decide) rfl (fun ls hl => ?_)
        replace hl : lv_has ls 3 [(2, .int (nI (k + 1))), (0, .ref (a 17)), (1, .int (nI t))] := hl
        refine lv_goto (tgt := 12) hx hb d_M_markOutside_46 rfl ?_
        exact ih12 _ (by omega) (k := k + 1) (f := f) (ls := ls) (H := H) (locs := locs) (hS := hS) (hl := lv_sub hl [1, 2, 0] rfl) (hP := hP) (hD := hD) (hle2 := (by omega)) (hJ2 := (ec_MO_no hJ2 (fun q => ec_nn h24 q.1))) (hk12 := rfl)
      · refine lv_aload_n hx hb d_M_markOutside_27 rfl (lv_at hl 0 rfl) ?_
        refine lv_iload_n hx hb d_M_markOutside_28 rfl (lv_at hl 1 rfl) ?_
        refine lv_iload_n hx hb d_M_markOutside_29 rfl (lv_at hl 2 rfl) ?_
        refine ec_vSi (C := "ExactMesh$CarvedMesh") (ci := 3) (q := (R_M, T_M, 5)) (q0 := 17) (As := [.int (nI t), .int (nI k)]) (rest := []) ⟨hx, hb, hml, hown, htb⟩ (c_M_isFixed l dC dI a cI cZ cJ pn px py ln lf lt lr sn sf st sr th hn qx qy mn mc f mo mr rest t k g12 gM (by omega) (by omega)) kv_M_isFixed hK hP rfl rfl rfl wd_363 ⟨Nat.le_of_ble_eq_true rfl, Nat.le_of_ble_eq_true rfl⟩ ⟨rfl, rfl⟩ rfl hl.1 rfl (Nat.le_of_ble_eq_true rfl) d_M_markOutside_30 ⟨Nat.zero_le _, Nat.zero_le _⟩ (fun r30 hr30 => ?_)
        replace hr30 : ec_isB r30 ((mr (mc (3 * t + k))).testBit (mc (3 * t + ec_nx k)) = true) := hr30
        refine ec_if_neB (tgt := 43) hx hb hr30 d_M_markOutside_33 rfl (fun h33 => ?_) (fun h33 => ?_)
        · refine ec_iinc (k := 2) hx hb d_M_markOutside_43 hl rfl (by decide) rfl (fun ls hl => ?_)
          replace hl : lv_has ls 3 [(2, .int (nI (k + 1))), (0, .ref (a 17)), (1, .int (nI t))] := hl
          refine lv_goto (tgt := 12) hx hb d_M_markOutside_46 rfl ?_
          exact ih12 _ (by omega) (k := k + 1) (f := f) (ls := ls) (H := H) (locs := locs) (hS := hS) (hl := lv_sub hl [1, 2, 0] rfl) (hP := hP) (hD := hD) (hle2 := (by omega)) (hJ2 := (ec_MO_no hJ2 (fun q => q.2 h33))) (hk12 := rfl)
        · refine lv_aload_n hx hb d_M_markOutside_36 rfl (lv_at hl 0 rfl) ?_
          refine va_get (D := (dC, dI)) (ci := 3) (v := .ref (a 19)) (C := R_M) (T := T_M) (N := 5) hx hb htb in_M hown hK hP 17 rfl rfl 1 (by decide) (htb _ wd_96) (fun _ h9 => h9) rfl d_M_markOutside_37 ?_
          refine lv_iload_n hx hb d_M_markOutside_40 rfl (lv_at hl 1 rfl) ?_
          refine lv_iconst (v := nI 1) hx hb d_M_markOutside_41 (by decide) ?_
          refine ec_zastZ (f := f) (i := t) (x := True) hx hb hK hP hD hS 19 1 rfl rfl (ec_bp_t trivial).symm (by omega) (by decide) d_M_markOutside_42 (fun H locs hP hD hS => ?_)
          replace hP : va_P (dC, dI) vwCl (wX a cI cZ cJ pn px py ln lf lt lr sn sf st sr th hn qx qy mn mc (va_up f t True) mo mr ++ rest) H := hP
          replace hD : va_D A (wX a cI cZ cJ pn px py ln lf lt lr sn sf st sr th hn qx qy mn mc (va_up f t True) mo mr ++ rest) := hD
          refine ec_iinc (k := 2) hx hb d_M_markOutside_43 hl rfl (by decide) rfl (fun ls hl => ?_)
          replace hl : lv_has ls 3 [(2, .int (nI (k + 1))), (0, .ref (a 17)), (1, .int (nI t))] := hl
          refine lv_goto (tgt := 12) hx hb d_M_markOutside_46 rfl ?_
          exact ih12 _ (by omega) (k := k + 1) (f := va_up f t True) (ls := ls) (H := H) (locs := locs) (hS := hS) (hl := lv_sub hl [1, 2, 0] rfl) (hP := hP) (hD := hD) (hle2 := (by omega)) (hJ2 := (ec_MO_yes hJ2 ⟨h24, h33⟩)) (hk12 := rfl)

set_option maxRecDepth 100000 in
set_option maxHeartbeats 4000000 in
theorem c_M_isBesideMarked (l : Launch) (dC : Nat → ClassId) (dI : Nat → Nat → Nat) (a : Nat → Nat) (cI cZ cJ : ClassId) (pn : Nat) (px : Nat → Int32) (py : Nat → Int32) (ln : Nat) (lf : Nat → Nat) (lt : Nat → Nat) (lr : Nat → Nat) (sn : Nat) (sf : Nat → Nat) (st : Nat → Nat) (sr : Nat → Nat) (th : Nat → Option Nat) (hn : Nat) (qx : Nat → Int32) (qy : Nat → Int32) (mn : Nat) (mc : Nat → Nat) (mk : Nat → Prop) (mo : Nat → Option Nat) (mr : Nat → Nat) (rest : va_W) (t : Nat) (g12 : pn ≤ 12) (gM : ec_MI pn mn mc mo mr) (ht : t < mn) : Met l y_M_isBesideMarked (Cond.code y_M_isBesideMarked b_M_isBesideMarked 4 (some .boolean) :: ec_tbl) ({ frames := 3, cells := 0, slots := 0, locals := 66 }) (va_Pc [.ref (a 17), .int (nI t)] (fun U => va_P (dC, dI) vwCl (wX a cI cZ cJ pn px py ln lf lt lr sn sf st sr th hn qx qy mn mc mk mo mr ++ rest) U.heap ∧ va_K (dC, dI) vwCl (ec_tys cI cZ cJ) U)) (vp_Si (fun r : Int32 => ec_isB r (ec_besM mc mo mr mk t))) 0 0 (fun _ => False) := by
  refine Met.ofW (cc := b_M_isBesideMarked) (maxL := 4) (ret := (some .boolean)) (by decide) rfl ?_
  intro p e s m args below meth c s₁ B hml hv0
  obtain ⟨rfl, hP, hK⟩ := hv0
  have hx := B.exec
  have hb := B.bytes
  have hr := B.returns
  have hts := atoms_spec (ws := (Cond.code y_M_isBesideMarked b_M_isBesideMarked 4 (some .boolean) :: ec_tbl)) B.pre
  have htb : ∀ w ∈ ec_tbl, w.before _ s = true := fun w h => hts w (List.mem_cons_of_mem _ h)
  clear hts
  have hown : s.vm.findClass "ExactMesh$CarvedMesh" = some m.cls := findClass_of_methodNamed B.named
  have hlocks := B.notSynchronized
  have hl := lv_entry ([.ref (a 17), .int (nI t)]) (n := 4) (Nat.le_of_ble_eq_true rfl)
  rw [lg_entry_eq]
  generalize (lg_sl ([.ref (a 17), .int (nI t)]) ++ List.replicate (4 - (lg_sl ([.ref (a 17), .int (nI t)])).length) Slot.unset).toArray = ls at hl ⊢
  replace hl : lv_has ls 4 [(0, .ref (a 17)), (1, .int (nI t))] := hl
  have gmn := gM.1
  have gmc := gM.2.1
  have gow := gM.2.2.1
  have gmr := gM.2.2.2
  refine lv_iconst (v := nI 0) hx hb d_M_isBesideMarked_0 (by decide) ?_
  refine lv_istore_n hx hb d_M_isBesideMarked_1 rfl hl (by decide) rfl (fun ls hl => ?_)
  replace hl : lv_has ls 4 [(2, .int (nI 0)), (0, .ref (a 17)), (1, .int (nI t))] := hl
  obtain ⟨k, e_k⟩ : ∃ z : Nat, z = 0 := ⟨_, rfl⟩
  replace hl : lv_has ls 4 [(0, .ref (a 17)), (1, .int (nI t)), (2, .int (nI k))] := by (try simp only [e_k]); exact lv_sub hl [1, 2, 0] rfl
  have hle : k ≤ 3 := by omega
  have hI : ∀ x, x < k → ¬ ec_bes1 mc mo mr mk t x := by exact fun x hx => by omega
  clear e_k
  generalize hk2 : 3 - k = k2
  induction k2 using Nat.strongRecOn generalizing k ls with
  | ind k2 ih2 =>
  refine lv_iload_n hx hb d_M_isBesideMarked_2 rfl (lv_at hl 2 rfl) ?_
  refine lv_iconst (v := nI 3) hx hb d_M_isBesideMarked_3 (by decide) ?_
  refine ec_icmp_ge (tgt := 45) hx hb d_M_isBesideMarked_4 rfl (by omega) (by omega) (fun h4 => ?_) (fun h4 => ?_)
  · refine lv_iconst (v := nI 0) hx hb d_M_isBesideMarked_45 (by decide) ?_
    exact W.zret hx hb hr rfl (fun tS ht hW => ⟨_, rfl, (ec_isB.f0 (fun ⟨x, hx, q⟩ => hI x (by omega) q)), ht⟩) (fun _ h => nomatch h) d_M_isBesideMarked_46
  · have q0 := gmc (3 * t + k) (by omega)
    have q1 := gmc (3 * t + ec_nx k) (by have := ec_nx_lt (k := k) (by omega); omega)
    refine lv_aload_n hx hb d_M_isBesideMarked_7 rfl (lv_at hl 0 rfl) ?_
    refine lv_iload_n hx hb d_M_isBesideMarked_8 rfl (lv_at hl 1 rfl) ?_
    refine lv_iload_n hx hb d_M_isBesideMarked_9 rfl (lv_at hl 2 rfl) ?_
    refine ec_vSi (C := "ExactMesh$CarvedMesh") (ci := 3) (q := (R_M, T_M, 5)) (q0 := 17) (As := [.int (nI t), .int (nI k)]) (rest := []) ⟨hx, hb, hml, hown, htb⟩ (c_M_beyond l dC dI a cI cZ cJ pn px py ln lf lt lr sn sf st sr th hn qx qy mn mc mk mo mr rest t k g12 gM (by omega) (by omega)) kv_M_beyond hK hP rfl rfl rfl wd_359 ⟨Nat.le_of_ble_eq_true rfl, Nat.le_of_ble_eq_true rfl⟩ ⟨rfl, rfl⟩ rfl hl.1 rfl (Nat.le_of_ble_eq_true rfl) d_M_isBesideMarked_10 ⟨Nat.zero_le _, Nat.zero_le _⟩ (fun r10 hr10 => ?_)
    replace hr10 : r10 = ec_oi (ec_bey mc mo t k) := hr10
    subst hr10
    refine lv_istore_n hx hb d_M_isBesideMarked_13 rfl hl (by decide) rfl (fun ls hl => ?_)
    replace hl : lv_has ls 4 [(3, .int (ec_oi (ec_bey mc mo t k))), (0, .ref (a 17)), (1, .int (nI t)), (2, .int (nI k))] := hl
    generalize hqvo : ec_bey mc mo t k = ovo at hl ⊢
    cases ovo with
    | none =>
      replace hl : lv_has ls 4 [(3, .int (-1)), (0, .ref (a 17)), (1, .int (nI t)), (2, .int (nI k))] := hl
      refine lv_iload_n hx hb d_M_isBesideMarked_14 rfl (lv_at hl 0 rfl) ?_
      refine lv_iconst (v := -1) hx hb d_M_isBesideMarked_15 (by decide) ?_
      refine lv_icmp_eq (tgt := 39) hx hb d_M_isBesideMarked_16 rfl (fun h16 => ?_) (fun h16 => ?_)
      · refine ec_iinc (k := 3) hx hb d_M_isBesideMarked_39 hl rfl (by decide) rfl (fun ls hl => ?_)
        replace hl : lv_has ls 4 [(2, .int (nI (k + 1))), (3, .int (-1)), (0, .ref (a 17)), (1, .int (nI t))] := hl
        refine lv_goto (tgt := 2) hx hb d_M_isBesideMarked_42 rfl ?_
        exact ih2 _ (by omega) (k := k + 1) (ls := ls) (hl := lv_sub hl [2, 3, 0] rfl) (hle := (by omega)) (hI := (lt_s hI (fun ⟨o, q, _⟩ => by rw [hqvo] at q; cases q))) (hk2 := rfl)
      · first | exact absurd rfl h16 | exact absurd h16 (by decide) | exact absurd h16 (ec_m1_ne (by omega)) | exact absurd (ec_m1_lt (by omega)) h16 | exact absurd (ec_m1_le (by omega)) h16 | exact absurd h16 (ec_m1_nlt (by omega)) | exact absurd h16 (ec_m1_nle (by omega))
    | some vo =>
      replace hl : lv_has ls 4 [(3, .int (nI vo)), (0, .ref (a 17)), (1, .int (nI t)), (2, .int (nI k))] := hl
      have hol := ec_Ow_lt (gow (by omega)) (by omega) (by omega) hqvo
      refine lv_iload_n hx hb d_M_isBesideMarked_14 rfl (lv_at hl 0 rfl) ?_
      refine lv_iconst (v := -1) hx hb d_M_isBesideMarked_15 (by decide) ?_
      refine lv_icmp_eq (tgt := 39) hx hb d_M_isBesideMarked_16 rfl (fun h16_1 => ?_) (fun h16_1 => ?_)
      · first | exact absurd rfl h16_1 | exact absurd h16_1 (by decide) | exact absurd h16_1 (ec_m1_ne (by omega)) | exact absurd (ec_m1_lt (by omega)) h16_1 | exact absurd (ec_m1_le (by omega)) h16_1 | exact absurd h16_1 (ec_m1_nlt (by omega)) | exact absurd h16_1 (ec_m1_nle (by omega))
      · refine lv_aload_n hx hb d_M_isBesideMarked_19 rfl (lv_at hl 1 rfl) ?_
        refine va_get (D := (dC, dI)) (ci := 3) (v := .ref (a 19)) (C := R_M) (T := T_M) (N := 5) hx hb htb in_M hown hK hP 17 rfl rfl 1 (by decide) (htb _ wd_96) (fun _ h9 => h9) rfl d_M_isBesideMarked_20 ?_
        refine lv_iload_n hx hb d_M_isBesideMarked_23 rfl (lv_at hl 0 rfl) ?_
        refine ec_zaldZ (f := mk) (i := vo) hx hb hK hP 19 1 rfl rfl (by omega) (by decide) d_M_isBesideMarked_24 ?_
        refine ec_if_eqB (tgt := 39) hx hb (ec_bp_is _) d_M_isBesideMarked_25 rfl (fun h25 => ?_) (fun h25 => ?_)
        · refine ec_iinc (k := 3) hx hb d_M_isBesideMarked_39 hl rfl (by decide) rfl (fun ls hl => ?_)
          replace hl : lv_has ls 4 [(2, .int (nI (k + 1))), (3, .int (nI vo)), (0, .ref (a 17)), (1, .int (nI t))] := hl
          refine lv_goto (tgt := 2) hx hb d_M_isBesideMarked_42 rfl ?_
          exact ih2 _ (by omega) (k := k + 1) (ls := ls) (hl := lv_sub hl [2, 3, 0] rfl) (hle := (by omega)) (hI := (lt_s hI (fun ⟨o, q, q2, _⟩ => by rw [hqvo] at q; cases q; exact h25 q2))) (hk2 := rfl)
        · refine lv_aload_n hx hb d_M_isBesideMarked_28 rfl (lv_at hl 1 rfl) ?_
          refine lv_iload_n hx hb d_M_isBesideMarked_29 rfl (lv_at hl 2 rfl) ?_
          refine lv_iload_n hx hb d_M_isBesideMarked_30 rfl (lv_at hl 3 rfl) ?_
          refine ec_vSi (C := "ExactMesh$CarvedMesh") (ci := 3) (q := (R_M, T_M, 5)) (q0 := 17) (As := [.int (nI t), .int (nI k)]) (rest := []) ⟨hx, hb, hml, hown, htb⟩ (c_M_isFixed l dC dI a cI cZ cJ pn px py ln lf lt lr sn sf st sr th hn qx qy mn mc mk mo mr rest t k g12 gM (by omega) (by omega)) kv_M_isFixed hK hP rfl rfl rfl wd_363 ⟨Nat.le_of_ble_eq_true rfl, Nat.le_of_ble_eq_true rfl⟩ ⟨rfl, rfl⟩ rfl hl.1 rfl (Nat.le_of_ble_eq_true rfl) d_M_isBesideMarked_31 ⟨Nat.zero_le _, Nat.zero_le _⟩ (fun r31 hr31 => ?_)
          replace hr31 : ec_isB r31 ((mr (mc (3 * t + k))).testBit (mc (3 * t + ec_nx k)) = true) := hr31
          refine ec_if_neB (tgt := 39) hx hb hr31 d_M_isBesideMarked_34 rfl (fun h34 => ?_) (fun h34 => ?_)
          · refine ec_iinc (k := 3) hx hb d_M_isBesideMarked_39 hl rfl (by decide) rfl (fun ls hl => ?_)
            replace hl : lv_has ls 4 [(2, .int (nI (k + 1))), (3, .int (nI vo)), (0, .ref (a 17)), (1, .int (nI t))] := hl
            refine lv_goto (tgt := 2) hx hb d_M_isBesideMarked_42 rfl ?_
            exact ih2 _ (by omega) (k := k + 1) (ls := ls) (hl := lv_sub hl [2, 3, 0] rfl) (hle := (by omega)) (hI := (lt_s hI (fun ⟨o, q, _, q3⟩ => q3 h34))) (hk2 := rfl)
          · refine lv_iconst (v := nI 1) hx hb d_M_isBesideMarked_37 (by decide) ?_
            exact W.zret hx hb hr rfl (fun tS ht hW => ⟨_, rfl, (ec_isB.t1 ⟨k, by omega, vo, hqvo, h25, h34⟩), ht⟩) (fun _ h => nomatch h) d_M_isBesideMarked_38

set_option maxRecDepth 100000 in
set_option maxHeartbeats 4000000 in
theorem c_M_spreadMarks (l : Launch) (dC : Nat → ClassId) (dI : Nat → Nat → Nat) (a : Nat → Nat) (cI cZ cJ : ClassId) (pn : Nat) (px : Nat → Int32) (py : Nat → Int32) (ln : Nat) (lf : Nat → Nat) (lt : Nat → Nat) (lr : Nat → Nat) (sn : Nat) (sf : Nat → Nat) (st : Nat → Nat) (sr : Nat → Nat) (th : Nat → Option Nat) (hn : Nat) (qx : Nat → Int32) (qy : Nat → Int32) (mn : Nat) (mc : Nat → Nat) (mk : Nat → Prop) (mo : Nat → Option Nat) (mr : Nat → Nat) (rest : va_W) (g12 : pn ≤ 12) (gM : ec_MI pn mn mc mo mr) (A : Nat → Prop) (hD : va_D A (wX a cI cZ cJ pn px py ln lf lt lr sn sf st sr th hn qx qy mn mc mk mo mr ++ rest)) : Met l y_M_spreadMarks (Cond.code y_M_spreadMarks b_M_spreadMarks 4 none :: ec_tbl) ({ frames := 4, cells := 0, slots := 0, locals := 89 }) (va_Pc [.ref (a 17)] (fun U => va_P (dC, dI) vwCl (wX a cI cZ cJ pn px py ln lf lt lr sn sf st sr th hn qx qy mn mc mk mo mr ++ rest) U.heap ∧ va_K (dC, dI) vwCl (ec_tys cI cZ cJ) U)) (va_Qv (fun (u : Nat → Prop) => ∀ x, x < mn → (u x ↔ ec_Cl mn (ec_besM mc mo mr) mk x)) (fun u t => va_P (dC, dI) vwCl (wX a cI cZ cJ pn px py ln lf lt lr sn sf st sr th hn qx qy mn mc u mo mr ++ rest) t.heap) A) 0 0 A := by
  refine Met.ofW (cc := b_M_spreadMarks) (maxL := 4) (ret := none) (by decide) rfl ?_
  intro p e s m args below meth c s₁ B hml hv0
  obtain ⟨rfl, hP, hK⟩ := hv0
  have hx := B.exec
  have hb := B.bytes
  have hr := B.returns
  have hts := atoms_spec (ws := (Cond.code y_M_spreadMarks b_M_spreadMarks 4 none :: ec_tbl)) B.pre
  have htb : ∀ w ∈ ec_tbl, w.before _ s = true := fun w h => hts w (List.mem_cons_of_mem _ h)
  clear hts
  have hown : s.vm.findClass "ExactMesh$CarvedMesh" = some m.cls := findClass_of_methodNamed B.named
  have hlocks := B.notSynchronized
  have hl := lv_entry ([.ref (a 17)]) (n := 4) (Nat.le_of_ble_eq_true rfl)
  rw [lg_entry_eq]
  generalize (lg_sl ([.ref (a 17)]) ++ List.replicate (4 - (lg_sl ([.ref (a 17)])).length) Slot.unset).toArray = ls at hl ⊢
  replace hl : lv_has ls 4 [(0, .ref (a 17))] := hl
  refine ec_start (fun H locs hH hlocs => ?_)
  replace hP : va_P (dC, dI) vwCl (wX a cI cZ cJ pn px py ln lf lt lr sn sf st sr th hn qx qy mn mc mk mo mr ++ rest) H := by rw [hH]; exact hP
  have hS : va_S A s.heap H locs := by rw [hH, hlocs]; exact va_S.rf
  clear hH hlocs
  have gmn := gM.1
  have gmc := gM.2.1
  have gow := gM.2.2.1
  have gmr := gM.2.2.2
  refine lv_iconst (v := nI 1) hx hb d_M_spreadMarks_0 (by decide) ?_
  refine lv_istore_n hx hb d_M_spreadMarks_1 rfl hl (by decide) rfl (fun ls hl => ?_)
  replace hl : lv_has ls 4 [(1, .int (nI 1)), (0, .ref (a 17))] := hl
  refine lv_iconst (v := nI 0) hx hb d_M_spreadMarks_2 (by decide) ?_
  refine lv_istore_n hx hb d_M_spreadMarks_3 rfl hl (by decide) rfl (fun ls hl => ?_)
  replace hl : lv_has ls 4 [(2, .int (nI 0)), (1, .int (nI 1)), (0, .ref (a 17))] := hl
  obtain ⟨fb, e_fb⟩ : ∃ z : Nat, z = 1 := ⟨_, rfl⟩
  obtain ⟨ro, e_ro⟩ : ∃ z : Nat, z = 0 := ⟨_, rfl⟩
  obtain ⟨g, e_g⟩ : ∃ z : Nat → Prop, z = mk := ⟨_, rfl⟩
  replace hl : lv_has ls 4 [(0, .ref (a 17)), (1, .int (nI fb)), (2, .int (nI ro))] := by (try simp only [e_fb, e_ro, e_g]); exact lv_sub hl [2, 1, 0] rfl
  replace hP : va_P (dC, dI) vwCl (wX a cI cZ cJ pn px py ln lf lt lr sn sf st sr th hn qx qy mn mc g mo mr ++ rest) H := by (try simp only [e_fb, e_ro, e_g]); exact hP
  replace hD : va_D A (wX a cI cZ cJ pn px py ln lf lt lr sn sf st sr th hn qx qy mn mc g mo mr ++ rest) := ec_Dk hD rfl
  have hfb : fb ≤ 1 := by omega
  have hro : ro ≤ 20 := by omega
  have hJ : ec_SP mn (ec_besM mc mo mr) mk g fb ro := by simp only [e_fb, e_ro, e_g]; exact ec_SP_0
  clear e_g e_ro e_fb
  generalize hk4 : 20 - ro = k4
  induction k4 using Nat.strongRecOn generalizing fb ro g ls H locs with
  | ind k4 ih4 =>
  refine lv_iload_n hx hb d_M_spreadMarks_4 rfl (lv_at hl 1 rfl) ?_
  refine ec_if_eq (tgt := 64) hx hb d_M_spreadMarks_5 rfl (by omega) (fun h5 => ?_) (fun h5 => ?_)
  · exact W.vret hx hb hr (fun tS ht hW => ⟨⟨g, rfl, (ec_SP_end (ec_besM_mono g12 gM) gmn hJ (Or.inl h5)), by show va_P _ _ _ tS.heap; rw [ht]; exact hP⟩, hS.F ht⟩) hS.2.2 d_M_spreadMarks_64
  · refine lv_iload_n hx hb d_M_spreadMarks_8 rfl (lv_at hl 2 rfl) ?_
    refine lv_bipush (v := nI 19) hx hb d_M_spreadMarks_9 (by decide) ?_
    refine ec_icmp_gt (tgt := 64) hx hb d_M_spreadMarks_11 rfl (by omega) (by omega) (fun h11 => ?_) (fun h11 => ?_)
    · exact W.vret hx hb hr (fun tS ht hW => ⟨⟨g, rfl, (ec_SP_end (ec_besM_mono g12 gM) gmn hJ (Or.inr h11)), by show va_P _ _ _ tS.heap; rw [ht]; exact hP⟩, hS.F ht⟩) hS.2.2 d_M_spreadMarks_64
    · refine lv_iconst (v := nI 0) hx hb d_M_spreadMarks_14 (by decide) ?_
      refine lv_istore_n hx hb d_M_spreadMarks_15 rfl hl (by decide) rfl (fun ls hl => ?_)
      replace hl : lv_has ls 4 [(1, .int (nI 0)), (0, .ref (a 17)), (2, .int (nI ro))] := hl
      refine lv_iconst (v := nI 0) hx hb d_M_spreadMarks_16 (by decide) ?_
      refine lv_istore_n hx hb d_M_spreadMarks_17 rfl hl (by decide) rfl (fun ls hl => ?_)
      replace hl : lv_has ls 4 [(3, .int (nI 0)), (1, .int (nI 0)), (0, .ref (a 17)), (2, .int (nI ro))] := hl
      obtain ⟨t, e_t⟩ : ∃ z : Nat, z = 0 := ⟨_, rfl⟩
      obtain ⟨fc, e_fc⟩ : ∃ z : Nat, z = 0 := ⟨_, rfl⟩
      obtain ⟨f, e_f⟩ : ∃ z : Nat → Prop, z = g := ⟨_, rfl⟩
      replace hl : lv_has ls 4 [(0, .ref (a 17)), (1, .int (nI fc)), (2, .int (nI ro)), (3, .int (nI t))] := by (try simp only [e_t, e_fc, e_f]); exact lv_sub hl [2, 1, 3, 0] rfl
      replace hP : va_P (dC, dI) vwCl (wX a cI cZ cJ pn px py ln lf lt lr sn sf st sr th hn qx qy mn mc f mo mr ++ rest) H := by (try simp only [e_t, e_fc, e_f]); exact hP
      replace hD : va_D A (wX a cI cZ cJ pn px py ln lf lt lr sn sf st sr th hn qx qy mn mc f mo mr ++ rest) := ec_Dk hD rfl
      have hle2 : t ≤ mn := by omega
      have hfc : fc ≤ 1 := by omega
      have hJ2 : ec_SQ mn (ec_besM mc mo mr) mk g f fc t := by simp only [e_t, e_fc, e_f]; exact ec_SQ_0 hJ
      clear e_f e_fc e_t
      generalize hk18 : mn - t = k18
      induction k18 using Nat.strongRecOn generalizing t fc f ls H locs with
      | ind k18 ih18 =>
      refine lv_iload_n hx hb d_M_spreadMarks_18 rfl (lv_at hl 3 rfl) ?_
      refine lv_aload_n hx hb d_M_spreadMarks_19 rfl (lv_at hl 0 rfl) ?_
      refine va_get (D := (dC, dI)) (ci := 3) (v := .int (nI mn)) (C := R_M) (T := T_M) (N := 5) hx hb htb in_M hown hK hP 17 rfl rfl 4 (by decide) (htb _ wd_99) (fun _ h9 => h9) rfl d_M_spreadMarks_20 ?_
      refine ec_icmp_ge (tgt := 58) hx hb d_M_spreadMarks_23 rfl (by omega) (by omega) (fun h23 => ?_) (fun h23 => ?_)
      · refine ec_iinc (k := 2) hx hb d_M_spreadMarks_58 hl rfl (by decide) rfl (fun ls hl => ?_)
        replace hl : lv_has ls 4 [(2, .int (nI (ro + 1))), (0, .ref (a 17)), (1, .int (nI fc)), (3, .int (nI t))] := hl
        refine lv_goto (tgt := 4) hx hb d_M_spreadMarks_61 rfl ?_
        exact ih4 _ (by omega) (fb := fc) (ro := ro + 1) (g := f) (ls := ls) (H := H) (locs := locs) (hS := hS) (hl := lv_sub hl [1, 2, 0] rfl) (hP := hP) (hD := hD) (hfb := hJ2.1) (hro := (by omega)) (hJ := (ec_SP_next hJ h5 (ec_SQ_c hJ2 (by omega)))) (hk4 := rfl)
      · refine lv_aload_n hx hb d_M_spreadMarks_26 rfl (lv_at hl 0 rfl) ?_
        refine va_get (D := (dC, dI)) (ci := 3) (v := .ref (a 19)) (C := R_M) (T := T_M) (N := 5) hx hb htb in_M hown hK hP 17 rfl rfl 1 (by decide) (htb _ wd_96) (fun _ h9 => h9) rfl d_M_spreadMarks_27 ?_
        refine lv_iload_n hx hb d_M_spreadMarks_30 rfl (lv_at hl 3 rfl) ?_
        refine ec_zaldZ (f := f) (i := t) hx hb hK hP 19 1 rfl rfl (by omega) (by decide) d_M_spreadMarks_31 ?_
        refine ec_if_neB (tgt := 52) hx hb (ec_bp_is _) d_M_spreadMarks_32 rfl (fun h32 => ?_) (fun h32 => ?_)
        · refine ec_iinc (k := 3) hx hb d_M_spreadMarks_52 hl rfl (by decide) rfl (fun ls hl => ?_)
          replace hl : lv_has ls 4 [(3, .int (nI (t + 1))), (0, .ref (a 17)), (1, .int (nI fc)), (2, .int (nI ro))] := hl
          refine lv_goto (tgt := 18) hx hb d_M_spreadMarks_55 rfl ?_
          exact ih18 _ (by omega) (t := t + 1) (fc := fc) (f := f) (ls := ls) (H := H) (locs := locs) (hS := hS) (hl := lv_sub hl [1, 2, 3, 0] rfl) (hP := hP) (hD := hD) (hle2 := (by omega)) (hfc := (by omega)) (hJ2 := (ec_SQ_keep hJ2 (Or.inl h32))) (hk18 := rfl)
        · refine lv_aload_n hx hb d_M_spreadMarks_35 rfl (lv_at hl 0 rfl) ?_
          refine lv_iload_n hx hb d_M_spreadMarks_36 rfl (lv_at hl 3 rfl) ?_
          refine ec_vSi (C := "ExactMesh$CarvedMesh") (ci := 3) (q := (R_M, T_M, 5)) (q0 := 17) (As := [.int (nI t)]) (rest := []) ⟨hx, hb, hml, hown, htb⟩ (c_M_isBesideMarked l dC dI a cI cZ cJ pn px py ln lf lt lr sn sf st sr th hn qx qy mn mc f mo mr rest t g12 gM (by omega)) kv_M_isBesideMarked hK hP rfl rfl rfl wd_371 ⟨Nat.le_of_ble_eq_true rfl, Nat.le_of_ble_eq_true rfl⟩ ⟨rfl, rfl⟩ rfl hl.1 rfl (Nat.le_of_ble_eq_true rfl) d_M_spreadMarks_37 ⟨Nat.zero_le _, Nat.zero_le _⟩ (fun r37 hr37 => ?_)
          replace hr37 : ec_isB r37 (ec_besM mc mo mr f t) := hr37
          refine ec_if_eqB (tgt := 52) hx hb hr37 d_M_spreadMarks_40 rfl (fun h40 => ?_) (fun h40 => ?_)
          · refine ec_iinc (k := 3) hx hb d_M_spreadMarks_52 hl rfl (by decide) rfl (fun ls hl => ?_)
            replace hl : lv_has ls 4 [(3, .int (nI (t + 1))), (0, .ref (a 17)), (1, .int (nI fc)), (2, .int (nI ro))] := hl
            refine lv_goto (tgt := 18) hx hb d_M_spreadMarks_55 rfl ?_
            exact ih18 _ (by omega) (t := t + 1) (fc := fc) (f := f) (ls := ls) (H := H) (locs := locs) (hS := hS) (hl := lv_sub hl [1, 2, 3, 0] rfl) (hP := hP) (hD := hD) (hle2 := (by omega)) (hfc := (by omega)) (hJ2 := (ec_SQ_keep hJ2 (Or.inr h40))) (hk18 := rfl)
          · refine lv_aload_n hx hb d_M_spreadMarks_43 rfl (lv_at hl 0 rfl) ?_
            refine va_get (D := (dC, dI)) (ci := 3) (v := .ref (a 19)) (C := R_M) (T := T_M) (N := 5) hx hb htb in_M hown hK hP 17 rfl rfl 1 (by decide) (htb _ wd_96) (fun _ h9 => h9) rfl d_M_spreadMarks_44 ?_
            refine lv_iload_n hx hb d_M_spreadMarks_47 rfl (lv_at hl 3 rfl) ?_
            refine lv_iconst (v := nI 1) hx hb d_M_spreadMarks_48 (by decide) ?_
            refine ec_zastZ (f := f) (i := t) (x := True) hx hb hK hP hD hS 19 1 rfl rfl (ec_bp_t trivial).symm (by omega) (by decide) d_M_spreadMarks_49 (fun H locs hP hD hS => ?_)
            replace hP : va_P (dC, dI) vwCl (wX a cI cZ cJ pn px py ln lf lt lr sn sf st sr th hn qx qy mn mc (va_up f t True) mo mr ++ rest) H := hP
            replace hD : va_D A (wX a cI cZ cJ pn px py ln lf lt lr sn sf st sr th hn qx qy mn mc (va_up f t True) mo mr ++ rest) := hD
            refine lv_iconst (v := nI 1) hx hb d_M_spreadMarks_50 (by decide) ?_
            refine lv_istore_n hx hb d_M_spreadMarks_51 rfl hl (by decide) rfl (fun ls hl => ?_)
            replace hl : lv_has ls 4 [(1, .int (nI 1)), (0, .ref (a 17)), (2, .int (nI ro)), (3, .int (nI t))] := hl
            refine ec_iinc (k := 3) hx hb d_M_spreadMarks_52 hl rfl (by decide) rfl (fun ls hl => ?_)
            replace hl : lv_has ls 4 [(3, .int (nI (t + 1))), (1, .int (nI 1)), (0, .ref (a 17)), (2, .int (nI ro))] := hl
            refine lv_goto (tgt := 18) hx hb d_M_spreadMarks_55 rfl ?_
            exact ih18 _ (by omega) (t := t + 1) (fc := 1) (f := va_up f t True) (ls := ls) (H := H) (locs := locs) (hS := hS) (hl := lv_sub hl [2, 1, 3, 0] rfl) (hP := hP) (hD := hD) (hle2 := (by omega)) (hfc := (by omega)) (hJ2 := (ec_SQ_mark (ec_besM_mono g12 gM) hJ2 h23 h32 h40)) (hk18 := rfl)
