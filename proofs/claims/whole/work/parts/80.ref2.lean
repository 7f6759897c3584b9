set_option maxRecDepth 100000 in
set_option maxHeartbeats 4000000 in
theorem c_R_addProduct (l : Launch) (dC : Nat → ClassId) (dI : Nat → Nat → Nat) (a : Nat → Nat) (cI cZ cJ : ClassId) (rn : Nat) (rx : Nat → Int32) (ry : Nat → Int32) (rl : Nat) (rf : Nat → Nat) (rt : Nat → Nat) (rh : Nat) (gx : Nat → Int32) (gy : Nat → Int32) (rc : Nat) (w1 : Nat → Nat) (w2 : Nat → Nat) (w3 : Nat → Nat) (rg : Nat → Prop) (rk : Nat) (kc : Nat → Nat) (kf : Nat → Prop) (kp : Nat → Int64) (rest : va_W) (z : Int64) (w : Int64) (bK : Int) (hz : -8796093022208 ≤ z.toInt ∧ z.toInt ≤ 8796093022208) (hw : -8796093022208 ≤ w.toInt ∧ w.toInt ≤ 8796093022208) (hKb : bK ≤ 900000000000) (hB : ec_BP kp bK) (A : Nat → Prop) (hD : va_D A (wR a cI cZ cJ rn rx ry rl rf rt rh gx gy rc w1 w2 w3 rg rk kc kf kp ++ rest)) : Met l y_R_addProduct (Cond.code y_R_addProduct b_R_addProduct 11 none :: ec_tbl) ({ frames := 0, cells := 0, slots := 0, locals := 0 }) (va_Pc [.ref (a 0), .long z, .long w] (fun U => va_P (dC, dI) vwCl (wR a cI cZ cJ rn rx ry rl rf rt rh gx gy rc w1 w2 w3 rg rk kc kf kp ++ rest) U.heap ∧ va_K (dC, dI) vwCl (ec_tys cI cZ cJ) U)) (va_Qv (fun (u : Nat → Int64) => ec_AP kp u z.toInt w.toInt ∧ ec_BP u (bK + 3221225472)) (fun u t => va_P (dC, dI) vwCl (wR a cI cZ cJ rn rx ry rl rf rt rh gx gy rc w1 w2 w3 rg rk kc kf u ++ rest) t.heap) A) 0 0 A := by
  refine Met.ofW (cc := b_R_addProduct) (maxL := 11) (ret := none) (by decide) rfl ?_
  intro p e s m args below meth c s₁ B hml hv0
  obtain ⟨rfl, hP, hK⟩ := hv0
  have hx := B.exec
  have hb := B.bytes
  have hr := B.returns
  have hts := atoms_spec (ws := (Cond.code y_R_addProduct b_R_addProduct 11 none :: ec_tbl)) B.pre
  have htb : ∀ w ∈ ec_tbl, w.before _ s = true := fun w h => hts w (List.mem_cons_of_mem _ h)
  clear hts
  have hown : s.vm.findClass "ExactMeshModel" = some m.cls := findClass_of_methodNamed B.named
  have hlocks := B.notSynchronized
  have hl := lv_entry ([.ref (a 0), .long z, .long w]) (n := 11) (Nat.le_of_ble_eq_true rfl)
  rw [lg_entry_eq]
  generalize (lg_sl ([.ref (a 0), .long z, .long w]) ++ List.replicate (11 - (lg_sl ([.ref (a 0), .long z, .long w])).length) Slot.unset).toArray = ls at hl ⊢
  replace hl : lv_has ls 11 [(0, .ref (a 0)), (1, .long z), (3, .long w)] := hl
  refine ec_start (fun H locs hH hlocs => ?_)
  replace hP : va_P (dC, dI) vwCl (wR a cI cZ cJ rn rx ry rl rf rt rh gx gy rc w1 w2 w3 rg rk kc kf kp ++ rest) H := by rw [hH]; exact hP
  have hS : va_S A s.heap H locs := by rw [hH, hlocs]; exact va_S.rf
  clear hH hlocs
  refine lv_iconst (v := nI 0) hx hb d_R_addProduct_0 (by decide) ?_
  refine lv_istore hx hb d_R_addProduct_1 hl (by decide) rfl (fun ls hl => ?_)
  replace hl : lv_has ls 11 [(5, .int (nI 0)), (0, .ref (a 0)), (1, .long z), (3, .long w)] := hl
  refine lv_iload hx hb d_R_addProduct_3 (lv_at hl 0 rfl) ?_
  refine lv_iconst (v := nI 3) hx hb d_R_addProduct_5 (by decide) ?_
  refine ec_icmp_ge (tgt := 100) hx hb d_R_addProduct_6 rfl (by omega) (by omega) (fun h6 => ?_) (fun h6 => ?_)
  · exact absurd h6 (by decide)
  · refine lv_iload hx hb d_R_addProduct_9 (lv_at hl 0 rfl) ?_
    refine lv_iconst (v := nI 2) hx hb d_R_addProduct_11 (by decide) ?_
    refine ec_icmp_ne (tgt := 22) hx hb d_R_addProduct_12 rfl (by omega) (by omega) (fun h12 => ?_) (fun h12 => ?_)
    · refine lv_lload_n hx hb d_R_addProduct_22 rfl (lv_at hl 2 rfl) ?_
      refine lv_bipush (v := nI 15) hx hb d_R_addProduct_23 (by decide) ?_
      refine lv_iload hx hb d_R_addProduct_25 (lv_at hl 0 rfl) ?_
      refine ec_imul hx hb d_R_addProduct_27 ?_
      refine lv_lshr hx hb d_R_addProduct_28 rfl ?_
      refine lv_ldc2 hx hb hown (htb _ wd_569) d_R_addProduct_29 ?_
      refine lv_land hx hb d_R_addProduct_32 ?_
      refine lv_topl (fun v1 e_v1 => ?_)
      refine lv_lstore hx hb d_R_addProduct_33 hl (by decide) rfl (fun ls hl => ?_)
      replace hl : lv_has ls 11 [(6, .long v1), (5, .int (nI 0)), (0, .ref (a 0)), (1, .long z), (3, .long w)] := hl
      have h_v1 : v1.toInt = ec_l0 z.toInt := by rw [e_v1]; exact ec_ls0 z
      refine lv_iconst (v := nI 0) hx hb d_R_addProduct_35 (by decide) ?_
      refine lv_istore hx hb d_R_addProduct_36 hl (by decide) rfl (fun ls hl => ?_)
      replace hl : lv_has ls 11 [(8, .int (nI 0)), (6, .long v1), (5, .int (nI 0)), (0, .ref (a 0)), (1, .long z), (3, .long w)] := hl
      refine lv_iload hx hb d_R_addProduct_38 (lv_at hl 0 rfl) ?_
      refine lv_iconst (v := nI 3) hx hb d_R_addProduct_40 (by decide) ?_
      refine ec_icmp_ge (tgt := 94) hx hb d_R_addProduct_41 rfl (by omega) (by omega) (fun h41 => ?_) (fun h41 => ?_)
      · exact absurd h41 (by decide)
      · refine lv_iload hx hb d_R_addProduct_44 (lv_at hl 0 rfl) ?_
        refine lv_iconst (v := nI 2) hx hb d_R_addProduct_46 (by decide) ?_
        refine ec_icmp_ne (tgt := 57) hx hb d_R_addProduct_47 rfl (by omega) (by omega) (fun h47 => ?_) (fun h47 => ?_)
        · refine lv_lload_n hx hb d_R_addProduct_57 rfl (lv_at hl 5 rfl) ?_
          refine lv_bipush (v := nI 15) hx hb d_R_addProduct_58 (by decide) ?_
          refine lv_iload hx hb d_R_addProduct_60 (lv_at hl 0 rfl) ?_
          refine ec_imul hx hb d_R_addProduct_62 ?_
          refine lv_lshr hx hb d_R_addProduct_63 rfl ?_
          refine lv_ldc2 hx hb hown (htb _ wd_569) d_R_addProduct_64 ?_
          refine lv_land hx hb d_R_addProduct_67 ?_
          refine lv_topl (fun v2 e_v2 => ?_)
          refine lv_lstore hx hb d_R_addProduct_68 hl (by decide) rfl (fun ls hl => ?_)
          replace hl : lv_has ls 11 [(9, .long v2), (8, .int (nI 0)), (6, .long v1), (5, .int (nI 0)), (0, .ref (a 0)), (1, .long z), (3, .long w)] := hl
          have h_v2 : v2.toInt = ec_l0 w.toInt := by rw [e_v2]; exact ec_ls0 w
          refine lv_aload_n hx hb d_R_addProduct_70 rfl (lv_at hl 4 rfl) ?_
          refine va_get (D := (dC, dI)) (ci := 5) (v := .ref (a 13)) (C := R_R) (T := T_R) (N := 18) hx hb htb in_R hown hK hP 0 rfl rfl 17 (by decide) (htb _ wd_466) (fun _ h9 => h9) rfl d_R_addProduct_71 ?_
          refine lv_iload hx hb d_R_addProduct_74 (lv_at hl 3 rfl) ?_
          refine lv_iload hx hb d_R_addProduct_76 (lv_at hl 1 rfl) ?_
          refine ec_iadd hx hb d_R_addProduct_78 ?_
          refine lv_dup2_11 hx hb d_R_addProduct_79 rfl rfl ?_
          refine ec_lald (f := kp) (i := 0) hx hb hK hP 13 2 rfl rfl (by omega) (by decide) d_R_addProduct_80 ?_
          refine lv_lload hx hb d_R_addProduct_81 (lv_at hl 2 rfl) ?_
          refine lv_lload hx hb d_R_addProduct_83 (lv_at hl 0 rfl) ?_
          refine lv_lmul hx hb d_R_addProduct_85 ?_
          refine lv_ladd hx hb d_R_addProduct_86 ?_
          refine ec_last (f := kp) (i := 0) hx hb hK hP hD hS 13 2 rfl rfl (by omega) (by decide) d_R_addProduct_87 (fun H locs hP hD hS => ?_)
          replace hP : va_P (dC, dI) vwCl (wR a cI cZ cJ rn rx ry rl rf rt rh gx gy rc w1 w2 w3 rg rk kc kf (vp_updL kp 0 ((kp 0) + (v1 * v2))) ++ rest) H := hP
          replace hD : va_D A (wR a cI cZ cJ rn rx ry rl rf rt rh gx gy rc w1 w2 w3 rg rk kc kf (vp_updL kp 0 ((kp 0) + (v1 * v2))) ++ rest) := hD
          obtain ⟨q3, e_q3⟩ : ∃ z : Nat → Int64, z = vp_updL kp 0 ((kp 0) + (v1 * v2)) := ⟨_, rfl⟩
          replace hP : va_P (dC, dI) vwCl (wR a cI cZ cJ rn rx ry rl rf rt rh gx gy rc w1 w2 w3 rg rk kc kf q3 ++ rest) H := by rw [e_q3]; exact hP
          replace hD : va_D A (wR a cI cZ cJ rn rx ry rl rf rt rh gx gy rc w1 w2 w3 rg rk kc kf q3 ++ rest) := ec_Dk hD rfl
          refine ec_iinc (k := 1) hx hb d_R_addProduct_88 hl rfl (by decide) rfl (fun ls hl => ?_)
          replace hl : lv_has ls 11 [(8, .int (nI 1)), (9, .long v2), (6, .long v1), (5, .int (nI 0)), (0, .ref (a 0)), (1, .long z), (3, .long w)] := hl
          refine lv_goto (tgt := 38) hx hb d_R_addProduct_91 rfl ?_
          refine lv_iload hx hb d_R_addProduct_38 (lv_at hl 0 rfl) ?_
          refine lv_iconst (v := nI 3) hx hb d_R_addProduct_40 (by decide) ?_
          refine ec_icmp_ge (tgt := 94) hx hb d_R_addProduct_41 rfl (by omega) (by omega) (fun h41_1 => ?_) (fun h41_1 => ?_)
          · exact absurd h41_1 (by decide)
          · refine lv_iload hx hb d_R_addProduct_44 (lv_at hl 0 rfl) ?_
            refine lv_iconst (v := nI 2) hx hb d_R_addProduct_46 (by decide) ?_
            refine ec_icmp_ne (tgt := 57) hx hb d_R_addProduct_47 rfl (by omega) (by omega) (fun h47_1 => ?_) (fun h47_1 => ?_)
            · refine lv_lload_n hx hb d_R_addProduct_57 rfl (lv_at hl 6 rfl) ?_
              refine lv_bipush (v := nI 15) hx hb d_R_addProduct_58 (by decide) ?_
              refine lv_iload hx hb d_R_addProduct_60 (lv_at hl 0 rfl) ?_
              refine ec_imul hx hb d_R_addProduct_62 ?_
              refine lv_lshr hx hb d_R_addProduct_63 rfl ?_
              refine lv_ldc2 hx hb hown (htb _ wd_569) d_R_addProduct_64 ?_
              refine lv_land hx hb d_R_addProduct_67 ?_
              refine lv_topl (fun v4 e_v4 => ?_)
              refine lv_lstore hx hb d_R_addProduct_68 hl (by decide) rfl (fun ls hl => ?_)
              replace hl : lv_has ls 11 [(9, .long v4), (8, .int (nI 1)), (6, .long v1), (5, .int (nI 0)), (0, .ref (a 0)), (1, .long z), (3, .long w)] := hl
              have h_v4 : v4.toInt = ec_l1 w.toInt := by rw [e_v4]; exact ec_ls1 w
              refine lv_aload_n hx hb d_R_addProduct_70 rfl (lv_at hl 4 rfl) ?_
              refine va_get (D := (dC, dI)) (ci := 5) (v := .ref (a 13)) (C := R_R) (T := T_R) (N := 18) hx hb htb in_R hown hK hP 0 rfl rfl 17 (by decide) (htb _ wd_466) (fun _ h9 => h9) rfl d_R_addProduct_71 ?_
              refine lv_iload hx hb d_R_addProduct_74 (lv_at hl 3 rfl) ?_
              refine lv_iload hx hb d_R_addProduct_76 (lv_at hl 1 rfl) ?_
              refine ec_iadd hx hb d_R_addProduct_78 ?_
              refine lv_dup2_11 hx hb d_R_addProduct_79 rfl rfl ?_
              refine ec_lald (f := q3) (i := 1) hx hb hK hP 13 2 rfl rfl (by omega) (by decide) d_R_addProduct_80 ?_
              refine lv_lload hx hb d_R_addProduct_81 (lv_at hl 2 rfl) ?_
              refine lv_lload hx hb d_R_addProduct_83 (lv_at hl 0 rfl) ?_
              refine lv_lmul hx hb d_R_addProduct_85 ?_
              refine lv_ladd hx hb d_R_addProduct_86 ?_
              refine ec_last (f := q3) (i := 1) hx hb hK hP hD hS 13 2 rfl rfl (by omega) (by decide) d_R_addProduct_87 (fun H locs hP hD hS => ?_)
              replace hP : va_P (dC, dI) vwCl (wR a cI cZ cJ rn rx ry rl rf rt rh gx gy rc w1 w2 w3 rg rk kc kf (vp_updL q3 1 ((q3 1) + (v1 * v4))) ++ rest) H := hP
              replace hD : va_D A (wR a cI cZ cJ rn rx ry rl rf rt rh gx gy rc w1 w2 w3 rg rk kc kf (vp_updL q3 1 ((q3 1) + (v1 * v4))) ++ rest) := hD
              obtain ⟨q5, e_q5⟩ : ∃ z : Nat → Int64, z = vp_updL q3 1 ((q3 1) + (v1 * v4)) := ⟨_, rfl⟩
              replace hP : va_P (dC, dI) vwCl (wR a cI cZ cJ rn rx ry rl rf rt rh gx gy rc w1 w2 w3 rg rk kc kf q5 ++ rest) H := by rw [e_q5]; exact hP
              replace hD : va_D A (wR a cI cZ cJ rn rx ry rl rf rt rh gx gy rc w1 w2 w3 rg rk kc kf q5 ++ rest) := ec_Dk hD rfl
              refine ec_iinc (k := 1) hx hb d_R_addProduct_88 hl rfl (by decide) rfl (fun ls hl => ?_)
              replace hl : lv_has ls 11 [(8, .int (nI 2)), (9, .long v4), (6, .long v1), (5, .int (nI 0)), (0, .ref (a 0)), (1, .long z), (3, .long w)] := hl
              refine lv_goto (tgt := 38) hx hb d_R_addProduct_91 rfl ?_
              refine lv_iload hx hb d_R_addProduct_38 (lv_at hl 0 rfl) ?_
              refine lv_iconst (v := nI 3) hx hb d_R_addProduct_40 (by decide) ?_
              refine ec_icmp_ge (tgt := 94) hx hb d_R_addProduct_41 rfl (by omega) (by omega) (fun h41_2 => ?_) (fun h41_2 => ?_)
              · exact absurd h41_2 (by decide)
              · refine lv_iload hx hb d_R_addProduct_44 (lv_at hl 0 rfl) ?_
                refine lv_iconst (v := nI 2) hx hb d_R_addProduct_46 (by decide) ?_
                refine ec_icmp_ne (tgt := 57) hx hb d_R_addProduct_47 rfl (by omega) (by omega) (fun h47_2 => ?_) (fun h47_2 => ?_)
                · exact absurd h47_2 (by decide)
                · refine lv_lload_n hx hb d_R_addProduct_50 rfl (lv_at hl 6 rfl) ?_
                  refine lv_bipush (v := nI 30) hx hb d_R_addProduct_51 (by decide) ?_
                  refine lv_lshr hx hb d_R_addProduct_53 rfl ?_
                  refine lv_goto (tgt := 68) hx hb d_R_addProduct_54 rfl ?_
                  refine lv_topl (fun v6 e_v6 => ?_)
                  refine lv_lstore hx hb d_R_addProduct_68 hl (by decide) rfl (fun ls hl => ?_)
                  replace hl : lv_has ls 11 [(9, .long v6), (8, .int (nI 2)), (6, .long v1), (5, .int (nI 0)), (0, .ref (a 0)), (1, .long z), (3, .long w)] := hl
                  have h_v6 : v6.toInt = ec_l2 w.toInt := by rw [e_v6]; exact ec_ls2 w
                  refine lv_aload_n hx hb d_R_addProduct_70 rfl (lv_at hl 4 rfl) ?_
                  refine va_get (D := (dC, dI)) (ci := 5) (v := .ref (a 13)) (C := R_R) (T := T_R) (N := 18) hx hb htb in_R hown hK hP 0 rfl rfl 17 (by decide) (htb _ wd_466) (fun _ h9 => h9) rfl d_R_addProduct_71 ?_
                  refine lv_iload hx hb d_R_addProduct_74 (lv_at hl 3 rfl) ?_
                  refine lv_iload hx hb d_R_addProduct_76 (lv_at hl 1 rfl) ?_
                  refine ec_iadd hx hb d_R_addProduct_78 ?_
                  refine lv_dup2_11 hx hb d_R_addProduct_79 rfl rfl ?_
                  refine ec_lald (f := q5) (i := 2) hx hb hK hP 13 2 rfl rfl (by omega) (by decide) d_R_addProduct_80 ?_
                  refine lv_lload hx hb d_R_addProduct_81 (lv_at hl 2 rfl) ?_
                  refine lv_lload hx hb d_R_addProduct_83 (lv_at hl 0 rfl) ?_
                  refine lv_lmul hx hb d_R_addProduct_85 ?_
                  refine lv_ladd hx hb d_R_addProduct_86 ?_
                  refine ec_last (f := q5) (i := 2) hx hb hK hP hD hS 13 2 rfl rfl (by omega) (by decide) d_R_addProduct_87 (fun H locs hP hD hS => ?_)
                  replace hP : va_P (dC, dI) vwCl (wR a cI cZ cJ rn rx ry rl rf rt rh gx gy rc w1 w2 w3 rg rk kc kf (vp_updL q5 2 ((q5 2) + (v1 * v6))) ++ rest) H := hP
                  replace hD : va_D A (wR a cI cZ cJ rn rx ry rl rf rt rh gx gy rc w1 w2 w3 rg rk kc kf (vp_updL q5 2 ((q5 2) + (v1 * v6))) ++ rest) := hD
                  obtain ⟨q7, e_q7⟩ : ∃ z : Nat → Int64, z = vp_updL q5 2 ((q5 2) + (v1 * v6)) := ⟨_, rfl⟩
                  replace hP : va_P (dC, dI) vwCl (wR a cI cZ cJ rn rx ry rl rf rt rh gx gy rc w1 w2 w3 rg rk kc kf q7 ++ rest) H := by rw [e_q7]; exact hP
                  replace hD : va_D A (wR a cI cZ cJ rn rx ry rl rf rt rh gx gy rc w1 w2 w3 rg rk kc kf q7 ++ rest) := ec_Dk hD rfl
                  refine ec_iinc (k := 1) hx hb d_R_addProduct_88 hl rfl (by decide) rfl (fun ls hl => ?_)
                  replace hl : lv_has ls 11 [(8, .int (nI 3)), (9, .long v6), (6, .long v1), (5, .int (nI 0)), (0, .ref (a 0)), (1, .long z), (3, .long w)] := hl
                  refine lv_goto (tgt := 38) hx hb d_R_addProduct_91 rfl ?_
                  refine lv_iload hx hb d_R_addProduct_38 (lv_at hl 0 rfl) ?_
                  refine lv_iconst (v := nI 3) hx hb d_R_addProduct_40 (by decide) ?_
                  refine ec_icmp_ge (tgt := 94) hx hb d_R_addProduct_41 rfl (by omega) (by omega) (fun h41_3 => ?_) (fun h41_3 => ?_)
                  · refine ec_iinc (k := 3) hx hb d_R_addProduct_94 hl rfl (by decide) rfl (fun ls hl => ?_)
                    replace hl : lv_has ls 11 [(5, .int (nI 1)), (8, .int (nI 3)), (9, .long v6), (6, .long v1), (0, .ref (a 0)), (1, .long z), (3, .long w)] := hl
                    refine lv_goto (tgt := 3) hx hb d_R_addProduct_97 rfl ?_
                    refine lv_iload hx hb d_R_addProduct_3 (lv_at hl 0 rfl) ?_
                    refine lv_iconst (v := nI 3) hx hb d_R_addProduct_5 (by decide) ?_
                    refine ec_icmp_ge (tgt := 100) hx hb d_R_addProduct_6 rfl (by omega) (by omega) (fun h6_1 => ?_) (fun h6_1 => ?_)
                    · exact absurd h6_1 (by decide)
                    · refine lv_iload hx hb d_R_addProduct_9 (lv_at hl 0 rfl) ?_
                      refine lv_iconst (v := nI 2) hx hb d_R_addProduct_11 (by decide) ?_
                      refine ec_icmp_ne (tgt := 22) hx hb d_R_addProduct_12 rfl (by omega) (by omega) (fun h12_1 => ?_) (fun h12_1 => ?_)
                      · refine lv_lload_n hx hb d_R_addProduct_22 rfl (lv_at hl 5 rfl) ?_
                        refine lv_bipush (v := nI 15) hx hb d_R_addProduct_23 (by decide) ?_
                        refine lv_iload hx hb d_R_addProduct_25 (lv_at hl 0 rfl) ?_
                        refine ec_imul hx hb d_R_addProduct_27 ?_
                        refine lv_lshr hx hb d_R_addProduct_28 rfl ?_
                        refine lv_ldc2 hx hb hown (htb _ wd_569) d_R_addProduct_29 ?_
                        refine lv_land hx hb d_R_addProduct_32 ?_
                        refine lv_topl (fun v8 e_v8 => ?_)
                        refine lv_lstore hx hb d_R_addProduct_33 hl (by decide) rfl (fun ls hl => ?_)
                        replace hl : lv_has ls 11 [(6, .long v8), (5, .int (nI 1)), (8, .int (nI 3)), (9, .long v6), (0, .ref (a 0)), (1, .long z), (3, .long w)] := hl
                        have h_v8 : v8.toInt = ec_l1 z.toInt := by rw [e_v8]; exact ec_ls1 z
                        refine lv_iconst (v := nI 0) hx hb d_R_addProduct_35 (by decide) ?_
                        refine lv_istore hx hb d_R_addProduct_36 hl (by decide) rfl (fun ls hl => ?_)
                        replace hl : lv_has ls 11 [(8, .int (nI 0)), (6, .long v8), (5, .int (nI 1)), (9, .long v6), (0, .ref (a 0)), (1, .long z), (3, .long w)] := hl
                        refine lv_iload hx hb d_R_addProduct_38 (lv_at hl 0 rfl) ?_
                        refine lv_iconst (v := nI 3) hx hb d_R_addProduct_40 (by decide) ?_
                        refine ec_icmp_ge (tgt := 94) hx hb d_R_addProduct_41 rfl (by omega) (by omega) (fun h41_4 => ?_) (fun h41_4 => ?_)
                        · exact absurd h41_4 (by decide)
                        · refine lv_iload hx hb d_R_addProduct_44 (lv_at hl 0 rfl) ?_
                          refine lv_iconst (v := nI 2) hx hb d_R_addProduct_46 (by decide) ?_
                          refine ec_icmp_ne (tgt := 57) hx hb d_R_addProduct_47 rfl (by omega) (by omega) (fun h47_3 => ?_) (fun h47_3 => ?_)
                          · refine lv_lload_n hx hb d_R_addProduct_57 rfl (lv_at hl 6 rfl) ?_
                            refine lv_bipush (v := nI 15) hx hb d_R_addProduct_58 (by decide) ?_
                            refine lv_iload hx hb d_R_addProduct_60 (lv_at hl 0 rfl) ?_
                            refine ec_imul hx hb d_R_addProduct_62 ?_
                            refine lv_lshr hx hb d_R_addProduct_63 rfl ?_
                            refine lv_ldc2 hx hb hown (htb _ wd_569) d_R_addProduct_64 ?_
                            refine lv_land hx hb d_R_addProduct_67 ?_
                            refine lv_topl (fun v9 e_v9 => ?_)
                            refine lv_lstore hx hb d_R_addProduct_68 hl (by decide) rfl (fun ls hl => ?_)
                            replace hl : lv_has ls 11 [(9, .long v9), (8, .int (nI 0)), (6, .long v8), (5, .int (nI 1)), (0, .ref (a 0)), (1, .long z), (3, .long w)] := hl
                            have h_v9 : v9.toInt = ec_l0 w.toInt := by rw [e_v9]; exact ec_ls0 w
                            refine lv_aload_n hx hb d_R_addProduct_70 rfl (lv_at hl 4 rfl) ?_
                            refine va_get (D := (dC, dI)) (ci := 5) (v := .ref (a 13)) (C := R_R) (T := T_R) (N := 18) hx hb htb in_R hown hK hP 0 rfl rfl 17 (by decide) (htb _ wd_466) (fun _ h9 => h9) rfl d_R_addProduct_71 ?_
                            refine lv_iload hx hb d_R_addProduct_74 (lv_at hl 3 rfl) ?_
                            refine lv_iload hx hb d_R_addProduct_76 (lv_at hl 1 rfl) ?_
                            refine ec_iadd hx hb d_R_addProduct_78 ?_
                            refine lv_dup2_11 hx hb d_R_addProduct_79 rfl rfl ?_
                            refine ec_lald (f := q7) (i := 1) hx hb hK hP 13 2 rfl rfl (by omega) (by decide) d_R_addProduct_80 ?_
                            refine lv_lload hx hb d_R_addProduct_81 (lv_at hl 2 rfl) ?_
                            refine lv_lload hx hb d_R_addProduct_83 (lv_at hl 0 rfl) ?_
                            refine lv_lmul hx hb d_R_addProduct_85 ?_
                            refine lv_ladd hx hb d_R_addProduct_86 ?_
                            refine ec_last (f := q7) (i := 1) hx hb hK hP hD hS 13 2 rfl rfl (by omega) (by decide) d_R_addProduct_87 (fun H locs hP hD hS => ?_)
                            replace hP : va_P (dC, dI) vwCl (wR a cI cZ cJ rn rx ry rl rf rt rh gx gy rc w1 w2 w3 rg rk kc kf (vp_updL q7 1 ((q7 1) + (v8 * v9))) ++ rest) H := hP
                            replace hD : va_D A (wR a cI cZ cJ rn rx ry rl rf rt rh gx gy rc w1 w2 w3 rg rk kc kf (vp_updL q7 1 ((q7 1) + (v8 * v9))) ++ rest) := hD
                            obtain ⟨q10, e_q10⟩ : ∃ z : Nat → Int64, z = vp_updL q7 1 ((q7 1) + (v8 * v9)) := ⟨_, rfl⟩
                            replace hP : va_P (dC, dI) vwCl (wR a cI cZ cJ rn rx ry rl rf rt rh gx gy rc w1 w2 w3 rg rk kc kf q10 ++ rest) H := by rw [e_q10]; exact hP
                            replace hD : va_D A (wR a cI cZ cJ rn rx ry rl rf rt rh gx gy rc w1 w2 w3 rg rk kc kf q10 ++ rest) := ec_Dk hD rfl
                            refine ec_iinc (k := 1) hx hb d_R_addProduct_88 hl rfl (by decide) rfl (fun ls hl => ?_)
                            replace hl : lv_has ls 11 [(8, .int (nI 1)), (9, .long v9), (6, .long v8), (5, .int (nI 1)), (0, .ref (a 0)), (1, .long z), (3, .long w)] := hl
                            refine lv_goto (tgt := 38) hx hb d_R_addProduct_91 rfl ?_
                            refine lv_iload hx hb d_R_addProduct_38 (lv_at hl 0 rfl) ?_
                            refine lv_iconst (v := nI 3) hx hb d_R_addProduct_40 (by decide) ?_
                            refine ec_icmp_ge (tgt := 94) hx hb d_R_addProduct_41 rfl (by omega) (by omega) (fun h41_5 => ?_) (fun h41_5 => ?_)
                            · exact absurd h41_5 (by decide)
                            · refine lv_iload hx hb d_R_addProduct_44 (lv_at hl 0 rfl) ?_
                              refine lv_iconst (v := nI 2) hx hb d_R_addProduct_46 (by decide) ?_
                              refine ec_icmp_ne (tgt := 57) hx hb d_R_addProduct_47 rfl (by omega) (by omega) (fun h47_4 => ?_) (fun h47_4 => ?_)
                              · refine lv_lload_n hx hb d_R_addProduct_57 rfl (lv_at hl 6 rfl) ?_
                                refine lv_bipush (v := nI 15) hx hb d_R_addProduct_58 (by decide) ?_
                                refine lv_iload hx hb d_R_addProduct_60 (lv_at hl 0 rfl) ?_
                                refine ec_imul hx hb d_R_addProduct_62 ?_
                                refine lv_lshr hx hb d_R_addProduct_63 rfl ?_
                                refine lv_ldc2 hx hb hown (htb _ wd_569) d_R_addProduct_64 ?_
                                refine lv_land hx hb d_R_addProduct_67 ?_
                                refine lv_topl (fun v11 e_v11 => ?_)
                                refine lv_lstore hx hb d_R_addProduct_68 hl (by decide) rfl (fun ls hl => ?_)
                                replace hl : lv_has ls 11 [(9, .long v11), (8, .int (nI 1)), (6, .long v8), (5, .int (nI 1)), (0, .ref (a 0)), (1, .long z), (3, .long w)] := hl
                                have h_v11 : v11.toInt = ec_l1 w.toInt := by rw [e_v11]; exact ec_ls1 w
                                refine lv_aload_n hx hb d_R_addProduct_70 rfl (lv_at hl 4 rfl) ?_
                                refine va_get (D := (dC, dI)) (ci := 5) (v := .ref (a 13)) (C := R_R) (T := T_R) (N := 18) hx hb htb in_R hown hK hP 0 rfl rfl 17 (by decide) (htb _ wd_466) (fun _ h9 => h9) rfl d_R_addProduct_71 ?_
                                refine lv_iload hx hb d_R_addProduct_74 (lv_at hl 3 rfl) ?_
                                refine lv_iload hx hb d_R_addProduct_76 (lv_at hl 1 rfl) ?_
                                refine ec_iadd hx hb d_R_addProduct_78 ?_
                                refine lv_dup2_11 hx hb d_R_addProduct_79 rfl rfl ?_
                                refine ec_lald (f := q10) (i := 2) hx hb hK hP 13 2 rfl rfl (by omega) (by decide) d_R_addProduct_80 ?_
                                refine lv_lload hx hb d_R_addProduct_81 (lv_at hl 2 rfl) ?_
                                refine lv_lload hx hb d_R_addProduct_83 (lv_at hl 0 rfl) ?_
                                refine lv_lmul hx hb d_R_addProduct_85 ?_
                                refine lv_ladd hx hb d_R_addProduct_86 ?_
                                refine ec_last (f := q10) (i := 2) hx hb hK hP hD hS 13 2 rfl rfl (by omega) (by decide) d_R_addProduct_87 (fun H locs hP hD hS => ?_)
                                replace hP : va_P (dC, dI) vwCl (wR a cI cZ cJ rn rx ry rl rf rt rh gx gy rc w1 w2 w3 rg rk kc kf (vp_updL q10 2 ((q10 2) + (v8 * v11))) ++ rest) H := hP
                                replace hD : va_D A (wR a cI cZ cJ rn rx ry rl rf rt rh gx gy rc w1 w2 w3 rg rk kc kf (vp_updL q10 2 ((q10 2) + (v8 * v11))) ++ rest) := hD
                                obtain ⟨q12, e_q12⟩ : ∃ z : Nat → Int64, z = vp_updL q10 2 ((q10 2) + (v8 * v11)) := ⟨_, rfl⟩
                                replace hP : va_P (dC, dI) vwCl (wR a cI cZ cJ rn rx ry rl rf rt rh gx gy rc w1 w2 w3 rg rk kc kf q12 ++ rest) H := by rw [e_q12]; exact hP
                                replace hD : va_D A (wR a cI cZ cJ rn rx ry rl rf rt rh gx gy rc w1 w2 w3 rg rk kc kf q12 ++ rest) := ec_Dk hD rfl
                                refine ec_iinc (k := 1) hx hb d_R_addProduct_88 hl rfl (by decide) rfl (fun ls hl => ?_)
                                replace hl : lv_has ls 11 [(8, .int (nI 2)), (9, .long v11), (6, .long v8), (5, .int (nI 1)), (0, .ref (a 0)), (1, .long z), (3, .long w)] := hl
                                refine lv_goto (tgt := 38) hx hb d_R_addProduct_91 rfl ?_
                                refine lv_iload hx hb d_R_addProduct_38 (lv_at hl 0 rfl) ?_
                                refine lv_iconst (v := nI 3) hx hb d_R_addProduct_40 (by decide) ?_
                                refine ec_icmp_ge (tgt := 94) hx hb d_R_addProduct_41 rfl (by omega) (by omega) (fun h41_6 => ?_) (fun h41_6 => ?_)
                                · exact absurd h41_6 (by decide)
                                · refine lv_iload hx hb d_R_addProduct_44 (lv_at hl 0 rfl) ?_
                                  refine lv_iconst (v := nI 2) hx hb d_R_addProduct_46 (by decide) ?_
                                  refine ec_icmp_ne (tgt := 57) hx hb d_R_addProduct_47 rfl (by omega) (by omega) (fun h47_5 => ?_) (fun h47_5 => ?_)
                                  · exact absurd h47_5 (by decide)
                                  · refine lv_lload_n hx hb d_R_addProduct_50 rfl (lv_at hl 6 rfl) ?_
                                    refine lv_bipush (v := nI 30) hx hb d_R_addProduct_51 (by decide) ?_
                                    refine lv_lshr hx hb d_R_addProduct_53 rfl ?_
                                    refine lv_goto (tgt := 68) hx hb d_R_addProduct_54 rfl ?_
                                    refine lv_topl (fun v13 e_v13 => ?_)
                                    refine lv_lstore hx hb d_R_addProduct_68 hl (by decide) rfl (fun ls hl => ?_)
                                    replace hl : lv_has ls 11 [(9, .long v13), (8, .int (nI 2)), (6, .long v8), (5, .int (nI 1)), (0, .ref (a 0)), (1, .long z), (3, .long w)] := hl
                                    have h_v13 : v13.toInt = ec_l2 w.toInt := by rw [e_v13]; exact ec_ls2 w
                                    refine lv_aload_n hx hb d_R_addProduct_70 rfl (lv_at hl 4 rfl) ?_
                                    refine va_get (D := (dC, dI)) (ci := 5) (v := .ref (a 13)) (C := R_R) (T := T_R) (N := 18) hx hb htb in_R hown hK hP 0 rfl rfl 17 (by decide) (htb _ wd_466) (fun _ h9 => h9) rfl d_R_addProduct_71 ?_
                                    refine lv_iload hx hb d_R_addProduct_74 (lv_at hl 3 rfl) ?_
                                    refine lv_iload hx hb d_R_addProduct_76 (lv_at hl 1 rfl) ?_
                                    refine ec_iadd hx hb d_R_addProduct_78 ?_
                                    refine lv_dup2_11 hx hb d_R_addProduct_79 rfl rfl ?_
                                    refine ec_lald (f := q12) (i := 3) hx hb hK hP 13 2 rfl rfl (by omega) (by decide) d_R_addProduct_80 ?_
                                    refine lv_lload hx hb d_R_addProduct_81 (lv_at hl 2 rfl) ?_
                                    refine lv_lload hx hb d_R_addProduct_83 (lv_at hl 0 rfl) ?_
                                    refine lv_lmul hx hb d_R_addProduct_85 ?_
                                    refine lv_ladd hx hb d_R_addProduct_86 ?_
                                    refine ec_last (f := q12) (i := 3) hx hb hK hP hD hS 13 2 rfl rfl (by omega) (by decide) d_R_addProduct_87 (fun H locs hP hD hS => ?_)
                                    replace hP : va_P (dC, dI) vwCl (wR a cI cZ cJ rn rx ry rl rf rt rh gx gy rc w1 w2 w3 rg rk kc kf (vp_updL q12 3 ((q12 3) + (v8 * v13))) ++ rest) H := hP
                                    replace hD : va_D A (wR a cI cZ cJ rn rx ry rl rf rt rh gx gy rc w1 w2 w3 rg rk kc kf (vp_updL q12 3 ((q12 3) + (v8 * v13))) ++ rest) := hD
                                    obtain ⟨q14, e_q14⟩ : ∃ z : Nat → Int64, z = vp_updL q12 3 ((q12 3) + (v8 * v13)) := ⟨_, rfl⟩
                                    replace hP : va_P (dC, dI) vwCl (wR a cI cZ cJ rn rx ry rl rf rt rh gx gy rc w1 w2 w3 rg rk kc kf q14 ++ rest) H := by rw [e_q14]; exact hP
                                    replace hD : va_D A (wR a cI cZ cJ rn rx ry rl rf rt rh gx gy rc w1 w2 w3 rg rk kc kf q14 ++ rest) := ec_Dk hD rfl
                                    refine ec_iinc (k := 1) hx hb d_R_addProduct_88 hl rfl (by decide) rfl (fun ls hl => ?_)
                                    replace hl : lv_has ls 11 [(8, .int (nI 3)), (9, .long v13), (6, .long v8), (5, .int (nI 1)), (0, .ref (a 0)), (1, .long z), (3, .long w)] := hl
                                    refine lv_goto (tgt := 38) hx hb d_R_addProduct_91 rfl ?_
                                    refine lv_iload hx hb d_R_addProduct_38 (lv_at hl 0 rfl) ?_
                                    refine lv_iconst (v := nI 3) hx hb d_R_addProduct_40 (by decide) ?_
                                    refine ec_icmp_ge (tgt := 94) hx hb d_R_addProduct_41 rfl (by omega) (by omega) (fun h41_7 => ?_) (fun h41_7 => ?_)
                                    · refine ec_iinc (k := 3) hx hb d_R_addProduct_94 hl rfl (by decide) rfl (fun ls hl => ?_)
                                      replace hl : lv_has ls 11 [(5, .int (nI 2)), (8, .int (nI 3)), (9, .long v13), (6, .long v8), (0, .ref (a 0)), (1, .long z), (3, .long w)] := hl
                                      refine lv_goto (tgt := 3) hx hb d_R_addProduct_97 rfl ?_
                                      refine lv_iload hx hb d_R_addProduct_3 (lv_at hl 0 rfl) ?_
                                      refine lv_iconst (v := nI 3) hx hb d_R_addProduct_5 (by decide) ?_
                                      refine ec_icmp_ge (tgt := 100) hx hb d_R_addProduct_6 rfl (by omega) (by omega) (fun h6_2 => ?_) (fun h6_2 => ?_)
                                      · exact absurd h6_2 (by decide)
                                      · refine lv_iload hx hb d_R_addProduct_9 (lv_at hl 0 rfl) ?_
                                        refine lv_iconst (v := nI 2) hx hb d_R_addProduct_11 (by decide) ?_
                                        refine ec_icmp_ne (tgt := 22) hx hb d_R_addProduct_12 rfl (by omega) (by omega) (fun h12_2 => ?_) (fun h12_2 => ?_)
                                        · exact absurd h12_2 (by decide)
                                        · refine lv_lload_n hx hb d_R_addProduct_15 rfl (lv_at hl 5 rfl) ?_
                                          refine lv_bipush (v := nI 30) hx hb d_R_addProduct_16 (by decide) ?_
                                          refine lv_lshr hx hb d_R_addProduct_18 rfl ?_
                                          refine lv_goto (tgt := 33) hx hb d_R_addProduct_19 rfl ?_
                                          refine lv_topl (fun v15 e_v15 => ?_)
                                          refine lv_lstore hx hb d_R_addProduct_33 hl (by decide) rfl (fun ls hl => ?_)
                                          replace hl : lv_has ls 11 [(6, .long v15), (5, .int (nI 2)), (8, .int (nI 3)), (9, .long v13), (0, .ref (a 0)), (1, .long z), (3, .long w)] := hl
                                          have h_v15 : v15.toInt = ec_l2 z.toInt := by rw [e_v15]; exact ec_ls2 z
                                          refine lv_iconst (v := nI 0) hx hb d_R_addProduct_35 (by decide) ?_
                                          refine lv_istore hx hb d_R_addProduct_36 hl (by decide) rfl (fun ls hl => ?_)
                                          replace hl : lv_has ls 11 [(8, .int (nI 0)), (6, .long v15), (5, .int (nI 2)), (9, .long v13), (0, .ref (a 0)), (1, .long z), (3, .long w)] := hl
                                          refine lv_iload hx hb d_R_addProduct_38 (lv_at hl 0 rfl) ?_
                                          refine lv_iconst (v := nI 3) hx hb d_R_addProduct_40 (by decide) ?_
                                          refine ec_icmp_ge (tgt := 94) hx hb d_R_addProduct_41 rfl (by omega) (by omega) (fun h41_8 => ?_) (fun h41_8 => ?_)
                                          · exact absurd h41_8 (by decide)
                                          · refine lv_iload hx hb d_R_addProduct_44 (lv_at hl 0 rfl) ?_
                                            refine lv_iconst (v := nI 2) hx hb d_R_addProduct_46 (by decide) ?_
                                            refine ec_icmp_ne (tgt := 57) hx hb d_R_addProduct_47 rfl (by omega) (by omega) (fun h47_6 => ?_) (fun h47_6 => ?_)
                                            · refine lv_lload_n hx hb d_R_addProduct_57 rfl (lv_at hl 6 rfl) ?_
                                              refine lv_bipush (v := nI 15) hx hb d_R_addProduct_58 (by decide) ?_
                                              refine lv_iload hx hb d_R_addProduct_60 (lv_at hl 0 rfl) ?_
                                              refine ec_imul hx hb d_R_addProduct_62 ?_
                                              refine lv_lshr hx hb d_R_addProduct_63 rfl ?_
                                              refine lv_ldc2 hx hb hown (htb _ wd_569) d_R_addProduct_64 ?_
                                              refine lv_land hx hb d_R_addProduct_67 ?_
                                              refine lv_topl (fun v16 e_v16 => ?_)
                                              refine lv_lstore hx hb d_R_addProduct_68 hl (by decide) rfl (fun ls hl => ?_)
                                              replace hl : lv_has ls 11 [(9, .long v16), (8, .int (nI 0)), (6, .long v15), (5, .int (nI 2)), (0, .ref (a 0)), (1, .long z), (3, .long w)] := hl
                                              have h_v16 : v16.toInt = ec_l0 w.toInt := by rw [e_v16]; exact ec_ls0 w
                                              refine lv_aload_n hx hb d_R_addProduct_70 rfl (lv_at hl 4 rfl) ?_
                                              refine va_get (D := (dC, dI)) (ci := 5) (v := .ref (a 13)) (C := R_R) (T := T_R) (N := 18) hx hb htb in_R hown hK hP 0 rfl rfl 17 (by decide) (htb _ wd_466) (fun _ h9 => h9) rfl d_R_addProduct_71 ?_
                                              refine lv_iload hx hb d_R_addProduct_74 (lv_at hl 3 rfl) ?_
                                              refine lv_iload hx hb d_R_addProduct_76 (lv_at hl 1 rfl) ?_
                                              refine ec_iadd hx hb d_R_addProduct_78 ?_
                                              refine lv_dup2_11 hx hb d_R_addProduct_79 rfl rfl ?_
                                              refine ec_lald (f := q14) (i := 2) hx hb hK hP 13 2 rfl rfl (by omega) (by decide) d_R_addProduct_80 ?_
                                              refine lv_lload hx hb d_R_addProduct_81 (lv_at hl 2 rfl) ?_
                                              refine lv_lload hx hb d_R_addProduct_83 (lv_at hl 0 rfl) ?_
                                              refine lv_lmul hx hb d_R_addProduct_85 ?_
                                              refine lv_ladd hx hb d_R_addProduct_86 ?_
                                              refine ec_last (f := q14) (i := 2) hx hb hK hP hD hS 13 2 rfl rfl (by omega) (by decide) d_R_addProduct_87 (fun H locs hP hD hS => ?_)
                                              replace hP : va_P (dC, dI) vwCl (wR a cI cZ cJ rn rx ry rl rf rt rh gx gy rc w1 w2 w3 rg rk kc kf (vp_updL q14 2 ((q14 2) + (v15 * v16))) ++ rest) H := hP
                                              replace hD : va_D A (wR a cI cZ cJ rn rx ry rl rf rt rh gx gy rc w1 w2 w3 rg rk kc kf (vp_updL q14 2 ((q14 2) + (v15 * v16))) ++ rest) := hD
                                              obtain ⟨q17, e_q17⟩ : ∃ z : Nat → Int64, z = vp_updL q14 2 ((q14 2) + (v15 * v16)) := ⟨_, rfl⟩
                                              replace hP : va_P (dC, dI) vwCl (wR a cI cZ cJ rn rx ry rl rf rt rh gx gy rc w1 w2 w3 rg rk kc kf q17 ++ rest) H := by rw [e_q17]; exact hP
                                              replace hD : va_D A (wR a cI cZ cJ rn rx ry rl rf rt rh gx gy rc w1 w2 w3 rg rk kc kf q17 ++ rest) := ec_Dk hD rfl
                                              refine ec_iinc (k := 1) hx hb d_R_addProduct_88 hl rfl (by decide) rfl (fun ls hl => ?_)
                                              replace hl : lv_has ls 11 [(8, .int (nI 1)), (9, .long v16), (6, .long v15), (5, .int (nI 2)), (0, .ref (a 0)), (1, .long z), (3, .long w)] := hl
                                              refine lv_goto (tgt := 38) hx hb d_R_addProduct_91 rfl ?_
                                              refine lv_iload hx hb d_R_addProduct_38 (lv_at hl 0 rfl) ?_
                                              refine lv_iconst (v := nI 3) hx hb d_R_addProduct_40 (by decide) ?_
                                              refine ec_icmp_ge (tgt := 94) hx hb d_R_addProduct_41 rfl (by omega) (by omega) (fun h41_9 => ?_) (fun h41_9 => ?_)
                                              · exact absurd h41_9 (by decide)
                                              · refine lv_iload hx hb d_R_addProduct_44 (lv_at hl 0 rfl) ?_
                                                refine lv_iconst (v := nI 2) hx hb d_R_addProduct_46 (by decide) ?_
                                                refine ec_icmp_ne (tgt := 57) hx hb d_R_addProduct_47 rfl (by omega) (by omega) (fun h47_7 => ?_) (fun h47_7 => ?_)
                                                · refine lv_lload_n hx hb d_R_addProduct_57 rfl (lv_at hl 6 rfl) ?_
                                                  refine lv_bipush (v := nI 15) hx hb d_R_addProduct_58 (by decide) ?_
                                                  refine lv_iload hx hb d_R_addProduct_60 (lv_at hl 0 rfl) ?_
                                                  refine ec_imul hx hb d_R_addProduct_62 ?_
                                                  refine lv_lshr hx hb d_R_addProduct_63 rfl ?_
                                                  refine lv_ldc2 hx hb hown (htb _ wd_569) d_R_addProduct_64 ?_
                                                  refine lv_land hx hb d_R_addProduct_67 ?_
                                                  refine lv_topl (fun v18 e_v18 => ?_)
                                                  refine lv_lstore hx hb d_R_addProduct_68 hl (by decide) rfl (fun ls hl => ?_)
                                                  replace hl : lv_has ls 11 [(9, .long v18), (8, .int (nI 1)), (6, .long v15), (5, .int (nI 2)), (0, .ref (a 0)), (1, .long z), (3, .long w)] := hl
                                                  have h_v18 : v18.toInt = ec_l1 w.toInt := by rw [e_v18]; exact ec_ls1 w
                                                  refine lv_aload_n hx hb d_R_addProduct_70 rfl (lv_at hl 4 rfl) ?_
                                                  refine va_get (D := (dC, dI)) (ci := 5) (v := .ref (a 13)) (C := R_R) (T := T_R) (N := 18) hx hb htb in_R hown hK hP 0 rfl rfl 17 (by decide) (htb _ wd_466) (fun _ h9 => h9) rfl d_R_addProduct_71 ?_
                                                  refine lv_iload hx hb d_R_addProduct_74 (lv_at hl 3 rfl) ?_
                                                  refine lv_iload hx hb d_R_addProduct_76 (lv_at hl 1 rfl) ?_
                                                  refine ec_iadd hx hb d_R_addProduct_78 ?_
                                                  refine lv_dup2_11 hx hb d_R_addProduct_79 rfl rfl ?_
                                                  refine ec_lald (f := q17) (i := 3) hx hb hK hP 13 2 rfl rfl (by omega) (by decide) d_R_addProduct_80 ?_
                                                  refine lv_lload hx hb d_R_addProduct_81 (lv_at hl 2 rfl) ?_
                                                  refine lv_lload hx hb d_R_addProduct_83 (lv_at hl 0 rfl) ?_
                                                  refine lv_lmul hx hb d_R_addProduct_85 ?_
                                                  refine lv_ladd hx hb d_R_addProduct_86 ?_
                                                  refine ec_last (f := q17) (i := 3) hx hb hK hP hD hS 13 2 rfl rfl (by omega) (by decide) d_R_addProduct_87 (fun H locs hP hD hS => ?_)
                                                  replace hP : va_P (dC, dI) vwCl (wR a cI cZ cJ rn rx ry rl rf rt rh gx gy rc w1 w2 w3 rg rk kc kf (vp_updL q17 3 ((q17 3) + (v15 * v18))) ++ rest) H := hP
                                                  replace hD : va_D A (wR a cI cZ cJ rn rx ry rl rf rt rh gx gy rc w1 w2 w3 rg rk kc kf (vp_updL q17 3 ((q17 3) + (v15 * v18))) ++ rest) := hD
                                                  obtain ⟨q19, e_q19⟩ : ∃ z : Nat → Int64, z = vp_updL q17 3 ((q17 3) + (v15 * v18)) := ⟨_, rfl⟩
                                                  replace hP : va_P (dC, dI) vwCl (wR a cI cZ cJ rn rx ry rl rf rt rh gx gy rc w1 w2 w3 rg rk kc kf q19 ++ rest) H := by rw [e_q19]; exact hP
                                                  replace hD : va_D A (wR a cI cZ cJ rn rx ry rl rf rt rh gx gy rc w1 w2 w3 rg rk kc kf q19 ++ rest) := ec_Dk hD rfl
                                                  refine ec_iinc (k := 1) hx hb d_R_addProduct_88 hl rfl (by decide) rfl (fun ls hl => ?_)
                                                  replace hl : lv_has ls 11 [(8, .int (nI 2)), (9, .long v18), (6, .long v15), (5, .int (nI 2)), (0, .ref (a 0)), (1, .long z), (3, .long w)] := hl
                                                  refine lv_goto (tgt := 38) hx hb d_R_addProduct_91 rfl ?_
                                                  refine lv_iload hx hb d_R_addProduct_38 (lv_at hl 0 rfl) ?_
                                                  refine lv_iconst (v := nI 3) hx hb d_R_addProduct_40 (by decide) ?_
                                                  refine ec_icmp_ge (tgt := 94) hx hb d_R_addProduct_41 rfl (by omega) (by omega) (fun h41_10 => ?_) (fun h41_10 => ?_)
                                                  · exact absurd h41_10 (by decide)
                                                  · refine lv_iload hx hb d_R_addProduct_44 (lv_at hl 0 rfl) ?_
                                                    refine lv_iconst (v := nI 2) hx hb d_R_addProduct_46 (by decide) ?_
                                                    refine ec_icmp_ne (tgt := 57) hx hb d_R_addProduct_47 rfl (by omega) (by omega) (fun h47_8 => ?_) (fun h47_8 => ?_)
                                                    · exact absurd h47_8 (by decide)
                                                    · refine lv_lload_n hx hb d_R_addProduct_50 rfl (lv_at hl 6 rfl) ?_
                                                      refine lv_bipush (v := nI 30) hx hb d_R_addProduct_51 (by decide) ?_
                                                      refine lv_lshr hx hb d_R_addProduct_53 rfl ?_
                                                      refine lv_goto (tgt := 68) hx hb d_R_addProduct_54 rfl ?_
                                                      refine lv_topl (fun v20 e_v20 => ?_)
                                                      refine lv_lstore hx hb d_R_addProduct_68 hl (by decide) rfl (fun ls hl => ?_)
                                                      replace hl : lv_has ls 11 [(9, .long v20), (8, .int (nI 2)), (6, .long v15), (5, .int (nI 2)), (0, .ref (a 0)), (1, .long z), (3, .long w)] := hl
                                                      have h_v20 : v20.toInt = ec_l2 w.toInt := by rw [e_v20]; exact ec_ls2 w
                                                      refine lv_aload_n hx hb d_R_addProduct_70 rfl (lv_at hl 4 rfl) ?_
                                                      refine va_get (D := (dC, dI)) (ci := 5) (v := .ref (a 13)) (C := R_R) (T := T_R) (N := 18) hx hb htb in_R hown hK hP 0 rfl rfl 17 (by decide) (htb _ wd_466) (fun _ h9 => h9) rfl d_R_addProduct_71 ?_
                                                      refine lv_iload hx hb d_R_addProduct_74 (lv_at hl 3 rfl) ?_
                                                      refine lv_iload hx hb d_R_addProduct_76 (lv_at hl 1 rfl) ?_
                                                      refine ec_iadd hx hb d_R_addProduct_78 ?_
                                                      refine lv_dup2_11 hx hb d_R_addProduct_79 rfl rfl ?_
                                                      refine ec_lald (f := q19) (i := 4) hx hb hK hP 13 2 rfl rfl (by omega) (by decide) d_R_addProduct_80 ?_
                                                      refine lv_lload hx hb d_R_addProduct_81 (lv_at hl 2 rfl) ?_
                                                      refine lv_lload hx hb d_R_addProduct_83 (lv_at hl 0 rfl) ?_
                                                      refine lv_lmul hx hb d_R_addProduct_85 ?_
                                                      refine lv_ladd hx hb d_R_addProduct_86 ?_
                                                      refine ec_last (f := q19) (i := 4) hx hb hK hP hD hS 13 2 rfl rfl (by omega) (by decide) d_R_addProduct_87 (fun H locs hP hD hS => ?_)
                                                      replace hP : va_P (dC, dI) vwCl (wR a cI cZ cJ rn rx ry rl rf rt rh gx gy rc w1 w2 w3 rg rk kc kf (vp_updL q19 4 ((q19 4) + (v15 * v20))) ++ rest) H := hP
                                                      replace hD : va_D A (wR a cI cZ cJ rn rx ry rl rf rt rh gx gy rc w1 w2 w3 rg rk kc kf (vp_updL q19 4 ((q19 4) + (v15 * v20))) ++ rest) := hD
                                                      obtain ⟨q21, e_q21⟩ : ∃ z : Nat → Int64, z = vp_updL q19 4 ((q19 4) + (v15 * v20)) := ⟨_, rfl⟩
                                                      replace hP : va_P (dC, dI) vwCl (wR a cI cZ cJ rn rx ry rl rf rt rh gx gy rc w1 w2 w3 rg rk kc kf q21 ++ rest) H := by rw [e_q21]; exact hP
                                                      replace hD : va_D A (wR a cI cZ cJ rn rx ry rl rf rt rh gx gy rc w1 w2 w3 rg rk kc kf q21 ++ rest) := ec_Dk hD rfl
                                                      refine ec_iinc (k := 1) hx hb d_R_addProduct_88 hl rfl (by decide) rfl (fun ls hl => ?_)
                                                      replace hl : lv_has ls 11 [(8, .int (nI 3)), (9, .long v20), (6, .long v15), (5, .int (nI 2)), (0, .ref (a 0)), (1, .long z), (3, .long w)] := hl
                                                      refine lv_goto (tgt := 38) hx hb d_R_addProduct_91 rfl ?_
                                                      refine lv_iload hx hb d_R_addProduct_38 (lv_at hl 0 rfl) ?_
                                                      refine lv_iconst (v := nI 3) hx hb d_R_addProduct_40 (by decide) ?_
                                                      refine ec_icmp_ge (tgt := 94) hx hb d_R_addProduct_41 rfl (by omega) (by omega) (fun h41_11 => ?_) (fun h41_11 => ?_)
                                                      · refine ec_iinc (k := 3) hx hb d_R_addProduct_94 hl rfl (by decide) rfl (fun ls hl => ?_)
                                                        replace hl : lv_has ls 11 [(5, .int (nI 3)), (8, .int (nI 3)), (9, .long v20), (6, .long v15), (0, .ref (a 0)), (1, .long z), (3, .long w)] := hl
                                                        refine lv_goto (tgt := 3) hx hb d_R_addProduct_97 rfl ?_
                                                        refine lv_iload hx hb d_R_addProduct_3 (lv_at hl 0 rfl) ?_
                                                        refine lv_iconst (v := nI 3) hx hb d_R_addProduct_5 (by decide) ?_
                                                        refine ec_icmp_ge (tgt := 100) hx hb d_R_addProduct_6 rfl (by omega) (by omega) (fun h6_3 => ?_) (fun h6_3 => ?_)
                                                        · exact W.vret hx hb hr (fun tS ht hW => ⟨⟨q21, rfl, (ec_ap hz hw hKb hB h_v1 h_v2 e_q3 h_v4 e_q5 h_v6 e_q7 h_v8 h_v9 e_q10 h_v11 e_q12 h_v13 e_q14 h_v15 h_v16 e_q17 h_v18 e_q19 h_v20 e_q21), by show va_P _ _ _ tS.heap; rw [ht]; exact hP⟩, hS.F ht⟩) hS.2.2 d_R_addProduct_100
                                                        · exact absurd h6_3 (by decide)
                                                      · exact absurd h41_11 (by decide)
                                                · exact absurd h47_7 (by decide)
                                            · exact absurd h47_6 (by decide)
                                    · exact absurd h41_7 (by decide)
                              · exact absurd h47_4 (by decide)
                          · exact absurd h47_3 (by decide)
                      · exact absurd h12_1 (by decide)
                  · exact absurd h41_3 (by decide)
            · exact absurd h47_1 (by decide)
        · exact absurd h47 (by decide)
    · exact absurd h12 (by decide)

set_option maxRecDepth 100000 in
set_option maxHeartbeats 4000000 in
theorem c_R_signOfSum (l : Launch) (dC : Nat → ClassId) (dI : Nat → Nat → Nat) (a : Nat → Nat) (cI cZ cJ : ClassId) (rn : Nat) (rx : Nat → Int32) (ry : Nat → Int32) (rl : Nat) (rf : Nat → Nat) (rt : Nat → Nat) (rh : Nat) (gx : Nat → Int32) (gy : Nat → Int32) (rc : Nat) (w1 : Nat → Nat) (w2 : Nat → Nat) (w3 : Nat → Nat) (rg : Nat → Prop) (rk : Nat) (kc : Nat → Nat) (kf : Nat → Prop) (kp : Nat → Int64) (rest : va_W) (bK : Int) (hKb : bK ≤ 900000000000) (hB : ec_BP kp bK) (A : Nat → Prop) (hD : va_D A (wR a cI cZ cJ rn rx ry rl rf rt rh gx gy rc w1 w2 w3 rg rk kc kf kp ++ rest)) : Met l y_R_signOfSum (Cond.code y_R_signOfSum b_R_signOfSum 3 (some .int) :: ec_tbl) ({ frames := 0, cells := 0, slots := 0, locals := 0 }) (va_Pc [.ref (a 0)] (fun U => va_P (dC, dI) vwCl (wR a cI cZ cJ rn rx ry rl rf rt rh gx gy rc w1 w2 w3 rg rk kc kf kp ++ rest) U.heap ∧ va_K (dC, dI) vwCl (ec_tys cI cZ cJ) U)) (va_Qi (fun (r : Int32) (u : Nat → Int64) => r = ec_sgn (ec_S5 kp)) (fun u t => va_P (dC, dI) vwCl (wR a cI cZ cJ rn rx ry rl rf rt rh gx gy rc w1 w2 w3 rg rk kc kf u ++ rest) t.heap) A) 0 0 A := by
  refine Met.ofW (cc := b_R_signOfSum) (maxL := 3) (ret := (some .int)) (by decide) rfl ?_
  intro p e s m args below meth c s₁ B hml hv0
  obtain ⟨rfl, hP, hK⟩ := hv0
  have hx := B.exec
  have hb := B.bytes
  have hr := B.returns
  have hts := atoms_spec (ws := (Cond.code y_R_signOfSum b_R_signOfSum 3 (some .int) :: ec_tbl)) B.pre
  have htb : ∀ w ∈ ec_tbl, w.before _ s = true := fun w h => hts w (List.mem_cons_of_mem _ h)
  clear hts
  have hown : s.vm.findClass "ExactMeshModel" = some m.cls := findClass_of_methodNamed B.named
  have hlocks := B.notSynchronized
  have hl := lv_entry ([.ref (a 0)]) (n := 3) (Nat.le_of_ble_eq_true rfl)
  rw [lg_entry_eq]
  generalize (lg_sl ([.ref (a 0)]) ++ List.replicate (3 - (lg_sl ([.ref (a 0)])).length) Slot.unset).toArray = ls at hl ⊢
  replace hl : lv_has ls 3 [(0, .ref (a 0))] := hl
  refine ec_start (fun H locs hH hlocs => ?_)
  replace hP : va_P (dC, dI) vwCl (wR a cI cZ cJ rn rx ry rl rf rt rh gx gy rc w1 w2 w3 rg rk kc kf kp ++ rest) H := by rw [hH]; exact hP
  have hS : va_S A s.heap H locs := by rw [hH, hlocs]; exact va_S.rf
  clear hH hlocs
  refine lv_iconst (v := nI 0) hx hb d_R_signOfSum_0 (by decide) ?_
  refine lv_istore_n hx hb d_R_signOfSum_1 rfl hl (by decide) rfl (fun ls hl => ?_)
  replace hl : lv_has ls 3 [(1, .int (nI 0)), (0, .ref (a 0))] := hl
  refine lv_iconst (v := nI 0) hx hb d_R_signOfSum_2 (by decide) ?_
  refine lv_istore_n hx hb d_R_signOfSum_3 rfl hl (by decide) rfl (fun ls hl => ?_)
  replace hl : lv_has ls 3 [(2, .int (nI 0)), (1, .int (nI 0)), (0, .ref (a 0))] := hl
  refine lv_iload_n hx hb d_R_signOfSum_4 rfl (lv_at hl 0 rfl) ?_
  refine lv_iconst (v := nI 4) hx hb d_R_signOfSum_5 (by decide) ?_
  refine ec_icmp_ge (tgt := 60) hx hb d_R_signOfSum_6 rfl (by omega) (by omega) (fun h6 => ?_) (fun h6 => ?_)
  · exact absurd h6 (by decide)
  · refine lv_aload_n hx hb d_R_signOfSum_9 rfl (lv_at hl 2 rfl) ?_
    refine va_get (D := (dC, dI)) (ci := 5) (v := .ref (a 13)) (C := R_R) (T := T_R) (N := 18) hx hb htb in_R hown hK hP 0 rfl rfl 17 (by decide) (htb _ wd_466) (fun _ h9 => h9) rfl d_R_signOfSum_10 ?_
    refine lv_iload_n hx hb d_R_signOfSum_13 rfl (lv_at hl 0 rfl) ?_
    refine lv_iconst (v := nI 1) hx hb d_R_signOfSum_14 (by decide) ?_
    refine ec_iadd hx hb d_R_signOfSum_15 ?_
    refine lv_dup2_11 hx hb d_R_signOfSum_16 rfl rfl ?_
    refine ec_lald (f := kp) (i := 1) hx hb hK hP 13 2 rfl rfl (by omega) (by decide) d_R_signOfSum_17 ?_
    refine lv_aload_n hx hb d_R_signOfSum_18 rfl (lv_at hl 2 rfl) ?_
    refine va_get (D := (dC, dI)) (ci := 5) (v := .ref (a 13)) (C := R_R) (T := T_R) (N := 18) hx hb htb in_R hown hK hP 0 rfl rfl 17 (by decide) (htb _ wd_466) (fun _ h9 => h9) rfl d_R_signOfSum_19 ?_
    refine lv_iload_n hx hb d_R_signOfSum_22 rfl (lv_at hl 0 rfl) ?_
    refine ec_lald (f := kp) (i := 0) hx hb hK hP 13 2 rfl rfl (by omega) (by decide) d_R_signOfSum_23 ?_
    refine lv_bipush (v := nI 15) hx hb d_R_signOfSum_24 (by decide) ?_
    refine lv_lshr hx hb d_R_signOfSum_26 rfl ?_
    refine lv_ladd hx hb d_R_signOfSum_27 ?_
    refine ec_last (f := kp) (i := 1) hx hb hK hP hD hS 13 2 rfl rfl (by omega) (by decide) d_R_signOfSum_28 (fun H locs hP hD hS => ?_)
    replace hP : va_P (dC, dI) vwCl (wR a cI cZ cJ rn rx ry rl rf rt rh gx gy rc w1 w2 w3 rg rk kc kf (vp_updL kp 1 ((kp 1) + ((kp 0) >>> ((nI 15).toInt64 &&& 63)))) ++ rest) H := hP
    replace hD : va_D A (wR a cI cZ cJ rn rx ry rl rf rt rh gx gy rc w1 w2 w3 rg rk kc kf (vp_updL kp 1 ((kp 1) + ((kp 0) >>> ((nI 15).toInt64 &&& 63)))) ++ rest) := hD
    obtain ⟨q1, e_q1⟩ : ∃ z : Nat → Int64, z = vp_updL kp 1 ((kp 1) + ((kp 0) >>> ((nI 15).toInt64 &&& 63))) := ⟨_, rfl⟩
    replace hP : va_P (dC, dI) vwCl (wR a cI cZ cJ rn rx ry rl rf rt rh gx gy rc w1 w2 w3 rg rk kc kf q1 ++ rest) H := by rw [e_q1]; exact hP
    replace hD : va_D A (wR a cI cZ cJ rn rx ry rl rf rt rh gx gy rc w1 w2 w3 rg rk kc kf q1 ++ rest) := ec_Dk hD rfl
    refine lv_iload_n hx hb d_R_signOfSum_29 rfl (lv_at hl 1 rfl) ?_
    refine ec_if_ne (tgt := 48) hx hb d_R_signOfSum_30 rfl (by omega) (fun h30 => ?_) (fun h30 => ?_)
    · exact absurd h30 (by decide)
    · refine lv_aload_n hx hb d_R_signOfSum_33 rfl (lv_at hl 2 rfl) ?_
      refine va_get (D := (dC, dI)) (ci := 5) (v := .ref (a 13)) (C := R_R) (T := T_R) (N := 18) hx hb htb in_R hown hK hP 0 rfl rfl 17 (by decide) (htb _ wd_466) (fun _ h9 => h9) rfl d_R_signOfSum_34 ?_
      refine lv_iload_n hx hb d_R_signOfSum_37 rfl (lv_at hl 0 rfl) ?_
      refine ec_lald (f := q1) (i := 0) hx hb hK hP 13 2 rfl rfl (by omega) (by decide) d_R_signOfSum_38 ?_
      refine lv_ldc2 hx hb hown (htb _ wd_569) d_R_signOfSum_39 ?_
      refine lv_land hx hb d_R_signOfSum_42 ?_
      refine lv_lconst (v := 0) hx hb d_R_signOfSum_43 (by decide) ?_
      refine W.lcmp hx hb d_R_signOfSum_44 ?_
      refine lv_if_eq (tgt := 52) hx hb d_R_signOfSum_45 rfl (fun h45 => ?_) (fun h45 => ?_)
      · rw [lg_cmp_eq] at h45
        refine lv_iconst (v := nI 0) hx hb d_R_signOfSum_52 (by decide) ?_
        refine lv_istore_n hx hb d_R_signOfSum_53 rfl hl (by decide) rfl (fun ls hl => ?_)
        replace hl : lv_has ls 3 [(1, .int (nI 0)), (2, .int (nI 0)), (0, .ref (a 0))] := hl
        refine ec_iinc (k := 1) hx hb d_R_signOfSum_54 hl rfl (by decide) rfl (fun ls hl => ?_)
        replace hl : lv_has ls 3 [(2, .int (nI 1)), (1, .int (nI 0)), (0, .ref (a 0))] := hl
        refine lv_goto (tgt := 4) hx hb d_R_signOfSum_57 rfl ?_
        refine lv_iload_n hx hb d_R_signOfSum_4 rfl (lv_at hl 0 rfl) ?_
        refine lv_iconst (v := nI 4) hx hb d_R_signOfSum_5 (by decide) ?_
        refine ec_icmp_ge (tgt := 60) hx hb d_R_signOfSum_6 rfl (by omega) (by omega) (fun h6_1 => ?_) (fun h6_1 => ?_)
        · exact absurd h6_1 (by decide)
        · refine lv_aload_n hx hb d_R_signOfSum_9 rfl (lv_at hl 2 rfl) ?_
          refine va_get (D := (dC, dI)) (ci := 5) (v := .ref (a 13)) (C := R_R) (T := T_R) (N := 18) hx hb htb in_R hown hK hP 0 rfl rfl 17 (by decide) (htb _ wd_466) (fun _ h9 => h9) rfl d_R_signOfSum_10 ?_
          refine lv_iload_n hx hb d_R_signOfSum_13 rfl (lv_at hl 0 rfl) ?_
          refine lv_iconst (v := nI 1) hx hb d_R_signOfSum_14 (by decide) ?_
          refine ec_iadd hx hb d_R_signOfSum_15 ?_
          refine lv_dup2_11 hx hb d_R_signOfSum_16 rfl rfl ?_
          refine ec_lald (f := q1) (i := 2) hx hb hK hP 13 2 rfl rfl (by omega) (by decide) d_R_signOfSum_17 ?_
          refine lv_aload_n hx hb d_R_signOfSum_18 rfl (lv_at hl 2 rfl) ?_
          refine va_get (D := (dC, dI)) (ci := 5) (v := .ref (a 13)) (C := R_R) (T := T_R) (N := 18) hx hb htb in_R hown hK hP 0 rfl rfl 17 (by decide) (htb _ wd_466) (fun _ h9 => h9) rfl d_R_signOfSum_19 ?_
          refine lv_iload_n hx hb d_R_signOfSum_22 rfl (lv_at hl 0 rfl) ?_
          refine ec_lald (f := q1) (i := 1) hx hb hK hP 13 2 rfl rfl (by omega) (by decide) d_R_signOfSum_23 ?_
          refine lv_bipush (v := nI 15) hx hb d_R_signOfSum_24 (by decide) ?_
          refine lv_lshr hx hb d_R_signOfSum_26 rfl ?_
          refine lv_ladd hx hb d_R_signOfSum_27 ?_
          refine ec_last (f := q1) (i := 2) hx hb hK hP hD hS 13 2 rfl rfl (by omega) (by decide) d_R_signOfSum_28 (fun H locs hP hD hS => ?_)
          replace hP : va_P (dC, dI) vwCl (wR a cI cZ cJ rn rx ry rl rf rt rh gx gy rc w1 w2 w3 rg rk kc kf (vp_updL q1 2 ((q1 2) + ((q1 1) >>> ((nI 15).toInt64 &&& 63)))) ++ rest) H := hP
          replace hD : va_D A (wR a cI cZ cJ rn rx ry rl rf rt rh gx gy rc w1 w2 w3 rg rk kc kf (vp_updL q1 2 ((q1 2) + ((q1 1) >>> ((nI 15).toInt64 &&& 63)))) ++ rest) := hD
          obtain ⟨q2, e_q2⟩ : ∃ z : Nat → Int64, z = vp_updL q1 2 ((q1 2) + ((q1 1) >>> ((nI 15).toInt64 &&& 63))) := ⟨_, rfl⟩
          replace hP : va_P (dC, dI) vwCl (wR a cI cZ cJ rn rx ry rl rf rt rh gx gy rc w1 w2 w3 rg rk kc kf q2 ++ rest) H := by rw [e_q2]; exact hP
          replace hD : va_D A (wR a cI cZ cJ rn rx ry rl rf rt rh gx gy rc w1 w2 w3 rg rk kc kf q2 ++ rest) := ec_Dk hD rfl
          refine lv_iload_n hx hb d_R_signOfSum_29 rfl (lv_at hl 1 rfl) ?_
          refine ec_if_ne (tgt := 48) hx hb d_R_signOfSum_30 rfl (by omega) (fun h30_1 => ?_) (fun h30_1 => ?_)
          · exact absurd h30_1 (by decide)
          · refine lv_aload_n hx hb d_R_signOfSum_33 rfl (lv_at hl 2 rfl) ?_
            refine va_get (D := (dC, dI)) (ci := 5) (v := .ref (a 13)) (C := R_R) (T := T_R) (N := 18) hx hb htb in_R hown hK hP 0 rfl rfl 17 (by decide) (htb _ wd_466) (fun _ h9 => h9) rfl d_R_signOfSum_34 ?_
            refine lv_iload_n hx hb d_R_signOfSum_37 rfl (lv_at hl 0 rfl) ?_
            refine ec_lald (f := q2) (i := 1) hx hb hK hP 13 2 rfl rfl (by omega) (by decide) d_R_signOfSum_38 ?_
            refine lv_ldc2 hx hb hown (htb _ wd_569) d_R_signOfSum_39 ?_
            refine lv_land hx hb d_R_signOfSum_42 ?_
            refine lv_lconst (v := 0) hx hb d_R_signOfSum_43 (by decide) ?_
            refine W.lcmp hx hb d_R_signOfSum_44 ?_
            refine lv_if_eq (tgt := 52) hx hb d_R_signOfSum_45 rfl (fun h45_1 => ?_) (fun h45_1 => ?_)
            · rw [lg_cmp_eq] at h45_1
              refine lv_iconst (v := nI 0) hx hb d_R_signOfSum_52 (by decide) ?_
              refine lv_istore_n hx hb d_R_signOfSum_53 rfl hl (by decide) rfl (fun ls hl => ?_)
              replace hl : lv_has ls 3 [(1, .int (nI 0)), (2, .int (nI 1)), (0, .ref (a 0))] := hl
              refine ec_iinc (k := 1) hx hb d_R_signOfSum_54 hl rfl (by decide) rfl (fun ls hl => ?_)
              replace hl : lv_has ls 3 [(2, .int (nI 2)), (1, .int (nI 0)), (0, .ref (a 0))] := hl
              refine lv_goto (tgt := 4) hx hb d_R_signOfSum_57 rfl ?_
              refine lv_iload_n hx hb d_R_signOfSum_4 rfl (lv_at hl 0 rfl) ?_
              refine lv_iconst (v := nI 4) hx hb d_R_signOfSum_5 (by decide) ?_
              refine ec_icmp_ge (tgt := 60) hx hb d_R_signOfSum_6 rfl (by omega) (by omega) (fun h6_2 => ?_) (fun h6_2 => ?_)
              · exact absurd h6_2 (by decide)
              · refine lv_aload_n hx hb d_R_signOfSum_9 rfl (lv_at hl 2 rfl) ?_
                refine va_get (D := (dC, dI)) (ci := 5) (v := .ref (a 13)) (C := R_R) (T := T_R) (N := 18) hx hb htb in_R hown hK hP 0 rfl rfl 17 (by decide) (htb _ wd_466) (fun _ h9 => h9) rfl d_R_signOfSum_10 ?_
                refine lv_iload_n hx hb d_R_signOfSum_13 rfl (lv_at hl 0 rfl) ?_
                refine lv_iconst (v := nI 1) hx hb d_R_signOfSum_14 (by decide) ?_
                refine ec_iadd hx hb d_R_signOfSum_15 ?_
                refine lv_dup2_11 hx hb d_R_signOfSum_16 rfl rfl ?_
                refine ec_lald (f := q2) (i := 3) hx hb hK hP 13 2 rfl rfl (by omega) (by decide) d_R_signOfSum_17 ?_
                refine lv_aload_n hx hb d_R_signOfSum_18 rfl (lv_at hl 2 rfl) ?_
                refine va_get (D := (dC, dI)) (ci := 5) (v := .ref (a 13)) (C := R_R) (T := T_R) (N := 18) hx hb htb in_R hown hK hP 0 rfl rfl 17 (by decide) (htb _ wd_466) (fun _ h9 => h9) rfl d_R_signOfSum_19 ?_
                refine lv_iload_n hx hb d_R_signOfSum_22 rfl (lv_at hl 0 rfl) ?_
                refine ec_lald (f := q2) (i := 2) hx hb hK hP 13 2 rfl rfl (by omega) (by decide) d_R_signOfSum_23 ?_
                refine lv_bipush (v := nI 15) hx hb d_R_signOfSum_24 (by decide) ?_
                refine lv_lshr hx hb d_R_signOfSum_26 rfl ?_
                refine lv_ladd hx hb d_R_signOfSum_27 ?_
                refine ec_last (f := q2) (i := 3) hx hb hK hP hD hS 13 2 rfl rfl (by omega) (by decide) d_R_signOfSum_28 (fun H locs hP hD hS => ?_)
                replace hP : va_P (dC, dI) vwCl (wR a cI cZ cJ rn rx ry rl rf rt rh gx gy rc w1 w2 w3 rg rk kc kf (vp_updL q2 3 ((q2 3) + ((q2 2) >>> ((nI 15).toInt64 &&& 63)))) ++ rest) H := hP
                replace hD : va_D A (wR a cI cZ cJ rn rx ry rl rf rt rh gx gy rc w1 w2 w3 rg rk kc kf (vp_updL q2 3 ((q2 3) + ((q2 2) >>> ((nI 15).toInt64 &&& 63)))) ++ rest) := hD
                obtain ⟨q3, e_q3⟩ : ∃ z : Nat → Int64, z = vp_updL q2 3 ((q2 3) + ((q2 2) >>> ((nI 15).toInt64 &&& 63))) := ⟨_, rfl⟩
                replace hP : va_P (dC, dI) vwCl (wR a cI cZ cJ rn rx ry rl rf rt rh gx gy rc w1 w2 w3 rg rk kc kf q3 ++ rest) H := by rw [e_q3]; exact hP
                replace hD : va_D A (wR a cI cZ cJ rn rx ry rl rf rt rh gx gy rc w1 w2 w3 rg rk kc kf q3 ++ rest) := ec_Dk hD rfl
                refine lv_iload_n hx hb d_R_signOfSum_29 rfl (lv_at hl 1 rfl) ?_
                refine ec_if_ne (tgt := 48) hx hb d_R_signOfSum_30 rfl (by omega) (fun h30_2 => ?_) (fun h30_2 => ?_)
                · exact absurd h30_2 (by decide)
                · refine lv_aload_n hx hb d_R_signOfSum_33 rfl (lv_at hl 2 rfl) ?_
                  refine va_get (D := (dC, dI)) (ci := 5) (v := .ref (a 13)) (C := R_R) (T := T_R) (N := 18) hx hb htb in_R hown hK hP 0 rfl rfl 17 (by decide) (htb _ wd_466) (fun _ h9 => h9) rfl d_R_signOfSum_34 ?_
                  refine lv_iload_n hx hb d_R_signOfSum_37 rfl (lv_at hl 0 rfl) ?_
                  refine ec_lald (f := q3) (i := 2) hx hb hK hP 13 2 rfl rfl (by omega) (by decide) d_R_signOfSum_38 ?_
                  refine lv_ldc2 hx hb hown (htb _ wd_569) d_R_signOfSum_39 ?_
                  refine lv_land hx hb d_R_signOfSum_42 ?_
                  refine lv_lconst (v := 0) hx hb d_R_signOfSum_43 (by decide) ?_
                  refine W.lcmp hx hb d_R_signOfSum_44 ?_
                  refine lv_if_eq (tgt := 52) hx hb d_R_signOfSum_45 rfl (fun h45_2 => ?_) (fun h45_2 => ?_)
                  · rw [lg_cmp_eq] at h45_2
                    refine lv_iconst (v := nI 0) hx hb d_R_signOfSum_52 (by decide) ?_
                    refine lv_istore_n hx hb d_R_signOfSum_53 rfl hl (by decide) rfl (fun ls hl => ?_)
                    replace hl : lv_has ls 3 [(1, .int (nI 0)), (2, .int (nI 2)), (0, .ref (a 0))] := hl
                    refine ec_iinc (k := 1) hx hb d_R_signOfSum_54 hl rfl (by decide) rfl (fun ls hl => ?_)
                    replace hl : lv_has ls 3 [(2, .int (nI 3)), (1, .int (nI 0)), (0, .ref (a 0))] := hl
                    refine lv_goto (tgt := 4) hx hb d_R_signOfSum_57 rfl ?_
                    refine lv_iload_n hx hb d_R_signOfSum_4 rfl (lv_at hl 0 rfl) ?_
                    refine lv_iconst (v := nI 4) hx hb d_R_signOfSum_5 (by decide) ?_
                    refine ec_icmp_ge (tgt := 60) hx hb d_R_signOfSum_6 rfl (by omega) (by omega) (fun h6_3 => ?_) (fun h6_3 => ?_)
                    · exact absurd h6_3 (by decide)
                    · refine lv_aload_n hx hb d_R_signOfSum_9 rfl (lv_at hl 2 rfl) ?_
                      refine va_get (D := (dC, dI)) (ci := 5) (v := .ref (a 13)) (C := R_R) (T := T_R) (N := 18) hx hb htb in_R hown hK hP 0 rfl rfl 17 (by decide) (htb _ wd_466) (fun _ h9 => h9) rfl d_R_signOfSum_10 ?_
                      refine lv_iload_n hx hb d_R_signOfSum_13 rfl (lv_at hl 0 rfl) ?_
                      refine lv_iconst (v := nI 1) hx hb d_R_signOfSum_14 (by decide) ?_
                      refine ec_iadd hx hb d_R_signOfSum_15 ?_
                      refine lv_dup2_11 hx hb d_R_signOfSum_16 rfl rfl ?_
                      refine ec_lald (f := q3) (i := 4) hx hb hK hP 13 2 rfl rfl (by omega) (by decide) d_R_signOfSum_17 ?_
                      refine lv_aload_n hx hb d_R_signOfSum_18 rfl (lv_at hl 2 rfl) ?_
                      refine va_get (D := (dC, dI)) (ci := 5) (v := .ref (a 13)) (C := R_R) (T := T_R) (N := 18) hx hb htb in_R hown hK hP 0 rfl rfl 17 (by decide) (htb _ wd_466) (fun _ h9 => h9) rfl d_R_signOfSum_19 ?_
                      refine lv_iload_n hx hb d_R_signOfSum_22 rfl (lv_at hl 0 rfl) ?_
                      refine ec_lald (f := q3) (i := 3) hx hb hK hP 13 2 rfl rfl (by omega) (by decide) d_R_signOfSum_23 ?_
                      refine lv_bipush (v := nI 15) hx hb d_R_signOfSum_24 (by decide) ?_
                      refine lv_lshr hx hb d_R_signOfSum_26 rfl ?_
                      refine lv_ladd hx hb d_R_signOfSum_27 ?_
                      refine ec_last (f := q3) (i := 4) hx hb hK hP hD hS 13 2 rfl rfl (by omega) (by decide) d_R_signOfSum_28 (fun H locs hP hD hS => ?_)
                      replace hP : va_P (dC, dI) vwCl (wR a cI cZ cJ rn rx ry rl rf rt rh gx gy rc w1 w2 w3 rg rk kc kf (vp_updL q3 4 ((q3 4) + ((q3 3) >>> ((nI 15).toInt64 &&& 63)))) ++ rest) H := hP
                      replace hD : va_D A (wR a cI cZ cJ rn rx ry rl rf rt rh gx gy rc w1 w2 w3 rg rk kc kf (vp_updL q3 4 ((q3 4) + ((q3 3) >>> ((nI 15).toInt64 &&& 63)))) ++ rest) := hD
                      obtain ⟨q4, e_q4⟩ : ∃ z : Nat → Int64, z = vp_updL q3 4 ((q3 4) + ((q3 3) >>> ((nI 15).toInt64 &&& 63))) := ⟨_, rfl⟩
                      replace hP : va_P (dC, dI) vwCl (wR a cI cZ cJ rn rx ry rl rf rt rh gx gy rc w1 w2 w3 rg rk kc kf q4 ++ rest) H := by rw [e_q4]; exact hP
                      replace hD : va_D A (wR a cI cZ cJ rn rx ry rl rf rt rh gx gy rc w1 w2 w3 rg rk kc kf q4 ++ rest) := ec_Dk hD rfl
                      refine lv_iload_n hx hb d_R_signOfSum_29 rfl (lv_at hl 1 rfl) ?_
                      refine ec_if_ne (tgt := 48) hx hb d_R_signOfSum_30 rfl (by omega) (fun h30_3 => ?_) (fun h30_3 => ?_)
                      · exact absurd h30_3 (by decide)
                      · refine lv_aload_n hx hb d_R_signOfSum_33 rfl (lv_at hl 2 rfl) ?_
                        refine va_get (D := (dC, dI)) (ci := 5) (v := .ref (a 13)) (C := R_R) (T := T_R) (N := 18) hx hb htb in_R hown hK hP 0 rfl rfl 17 (by decide) (htb _ wd_466) (fun _ h9 => h9) rfl d_R_signOfSum_34 ?_
                        refine lv_iload_n hx hb d_R_signOfSum_37 rfl (lv_at hl 0 rfl) ?_
                        refine ec_lald (f := q4) (i := 3) hx hb hK hP 13 2 rfl rfl (by omega) (by decide) d_R_signOfSum_38 ?_
                        refine lv_ldc2 hx hb hown (htb _ wd_569) d_R_signOfSum_39 ?_
                        refine lv_land hx hb d_R_signOfSum_42 ?_
                        refine lv_lconst (v := 0) hx hb d_R_signOfSum_43 (by decide) ?_
                        refine W.lcmp hx hb d_R_signOfSum_44 ?_
                        refine lv_if_eq (tgt := 52) hx hb d_R_signOfSum_45 rfl (fun h45_3 => ?_) (fun h45_3 => ?_)
                        · rw [lg_cmp_eq] at h45_3
                          refine lv_iconst (v := nI 0) hx hb d_R_signOfSum_52 (by decide) ?_
                          refine lv_istore_n hx hb d_R_signOfSum_53 rfl hl (by decide) rfl (fun ls hl => ?_)
                          replace hl : lv_has ls 3 [(1, .int (nI 0)), (2, .int (nI 3)), (0, .ref (a 0))] := hl
                          refine ec_iinc (k := 1) hx hb d_R_signOfSum_54 hl rfl (by decide) rfl (fun ls hl => ?_)
                          replace hl : lv_has ls 3 [(2, .int (nI 4)), (1, .int (nI 0)), (0, .ref (a 0))] := hl
                          refine lv_goto (tgt := 4) hx hb d_R_signOfSum_57 rfl ?_
                          refine lv_iload_n hx hb d_R_signOfSum_4 rfl (lv_at hl 0 rfl) ?_
                          refine lv_iconst (v := nI 4) hx hb d_R_signOfSum_5 (by decide) ?_
                          refine ec_icmp_ge (tgt := 60) hx hb d_R_signOfSum_6 rfl (by omega) (by omega) (fun h6_4 => ?_) (fun h6_4 => ?_)
                          · have L := ec_sos hKb hB e_q1 e_q2 e_q3 e_q4
                            refine lv_aload_n hx hb d_R_signOfSum_60 rfl (lv_at hl 2 rfl) ?_
                            refine va_get (D := (dC, dI)) (ci := 5) (v := .ref (a 13)) (C := R_R) (T := T_R) (N := 18) hx hb htb in_R hown hK hP 0 rfl rfl 17 (by decide) (htb _ wd_466) (fun _ h9 => h9) rfl d_R_signOfSum_61 ?_
                            refine lv_iconst (v := nI 4) hx hb d_R_signOfSum_64 (by decide) ?_
                            refine ec_lald (f := q4) (i := 4) hx hb hK hP 13 2 rfl rfl (by omega) (by decide) d_R_signOfSum_65 ?_
                            refine lv_lconst (v := 0) hx hb d_R_signOfSum_66 (by decide) ?_
                            refine W.lcmp hx hb d_R_signOfSum_67 ?_
                            refine lv_if_ge (tgt := 75) hx hb d_R_signOfSum_68 rfl (fun h68 => ?_) (fun h68 => ?_)
                            · rw [lg_cmp_ge] at h68
                              refine lv_aload_n hx hb d_R_signOfSum_75 rfl (lv_at hl 2 rfl) ?_
                              refine va_get (D := (dC, dI)) (ci := 5) (v := .ref (a 13)) (C := R_R) (T := T_R) (N := 18) hx hb htb in_R hown hK hP 0 rfl rfl 17 (by decide) (htb _ wd_466) (fun _ h9 => h9) rfl d_R_signOfSum_76 ?_
                              refine lv_iconst (v := nI 4) hx hb d_R_signOfSum_79 (by decide) ?_
                              refine ec_lald (f := q4) (i := 4) hx hb hK hP 13 2 rfl rfl (by omega) (by decide) d_R_signOfSum_80 ?_
                              refine lv_lconst (v := 0) hx hb d_R_signOfSum_81 (by decide) ?_
                              refine W.lcmp hx hb d_R_signOfSum_82 ?_
                              refine lv_if_gt (tgt := 90) hx hb d_R_signOfSum_83 rfl (fun h83 => ?_) (fun h83 => ?_)
                              · rw [lg_cmp_gt] at h83
                                refine lv_iconst (v := nI 1) hx hb d_R_signOfSum_90 (by decide) ?_
                                refine lv_goto (tgt := 95) hx hb d_R_signOfSum_91 rfl ?_
                                exact W.iret hx hb hr (fun tS ht hW => ⟨⟨_, q4, rfl, (ec_sos_p L h83), by show va_P _ _ _ tS.heap; rw [ht]; exact hP⟩, hS.F ht⟩) hS.2.2 d_R_signOfSum_95
                              · rw [lg_cmp_gt] at h83
                                refine lv_iload_n hx hb d_R_signOfSum_86 rfl (lv_at hl 1 rfl) ?_
                                refine ec_if_eq (tgt := 94) hx hb d_R_signOfSum_87 rfl (by omega) (fun h87 => ?_) (fun h87 => ?_)
                                · refine lv_iconst (v := nI 0) hx hb d_R_signOfSum_94 (by decide) ?_
                                  exact W.iret hx hb hr (fun tS ht hW => ⟨⟨_, q4, rfl, (ec_sos_z L h68 h83 ⟨h45, h45_1, h45_2, h45_3⟩), by show va_P _ _ _ tS.heap; rw [ht]; exact hP⟩, hS.F ht⟩) hS.2.2 d_R_signOfSum_95
                                · exact absurd h87 (by decide)
                            · rw [lg_cmp_ge] at h68
                              refine lv_iconst (v := -1) hx hb d_R_signOfSum_71 (by decide) ?_
                              refine lv_goto (tgt := 95) hx hb d_R_signOfSum_72 rfl ?_
                              exact W.iret hx hb hr (fun tS ht hW => ⟨⟨_, q4, rfl, (ec_sos_m L h68), by show va_P _ _ _ tS.heap; rw [ht]; exact hP⟩, hS.F ht⟩) hS.2.2 d_R_signOfSum_95
                          · exact absurd h6_4 (by decide)
                        · rw [lg_cmp_eq] at h45_3
                          refine lv_iconst (v := nI 1) hx hb d_R_signOfSum_48 (by decide) ?_
                          refine lv_goto (tgt := 53) hx hb d_R_signOfSum_49 rfl ?_
                          refine lv_istore_n hx hb d_R_signOfSum_53 rfl hl (by decide) rfl (fun ls hl => ?_)
                          replace hl : lv_has ls 3 [(1, .int (nI 1)), (2, .int (nI 3)), (0, .ref (a 0))] := hl
                          refine ec_iinc (k := 1) hx hb d_R_signOfSum_54 hl rfl (by decide) rfl (fun ls hl => ?_)
                          replace hl : lv_has ls 3 [(2, .int (nI 4)), (1, .int (nI 1)), (0, .ref (a 0))] := hl
                          refine lv_goto (tgt := 4) hx hb d_R_signOfSum_57 rfl ?_
                          refine lv_iload_n hx hb d_R_signOfSum_4 rfl (lv_at hl 0 rfl) ?_
                          refine lv_iconst (v := nI 4) hx hb d_R_signOfSum_5 (by decide) ?_
                          refine ec_icmp_ge (tgt := 60) hx hb d_R_signOfSum_6 rfl (by omega) (by omega) (fun h6_5 => ?_) (fun h6_5 => ?_)
                          · have L := ec_sos hKb hB e_q1 e_q2 e_q3 e_q4
                            refine lv_aload_n hx hb d_R_signOfSum_60 rfl (lv_at hl 2 rfl) ?_
                            refine va_get (D := (dC, dI)) (ci := 5) (v := .ref (a 13)) (C := R_R) (T := T_R) (N := 18) hx hb htb in_R hown hK hP 0 rfl rfl 17 (by decide) (htb _ wd_466) (fun _ h9 => h9) rfl d_R_signOfSum_61 ?_
                            refine lv_iconst (v := nI 4) hx hb d_R_signOfSum_64 (by decide) ?_
                            refine ec_lald (f := q4) (i := 4) hx hb hK hP 13 2 rfl rfl (by omega) (by decide) d_R_signOfSum_65 ?_
                            refine lv_lconst (v := 0) hx hb d_R_signOfSum_66 (by decide) ?_
                            refine W.lcmp hx hb d_R_signOfSum_67 ?_
                            refine lv_if_ge (tgt := 75) hx hb d_R_signOfSum_68 rfl (fun h68_1 => ?_) (fun h68_1 => ?_)
                            · rw [lg_cmp_ge] at h68_1
                              refine lv_aload_n hx hb d_R_signOfSum_75 rfl (lv_at hl 2 rfl) ?_
                              refine va_get (D := (dC, dI)) (ci := 5) (v := .ref (a 13)) (C := R_R) (T := T_R) (N := 18) hx hb htb in_R hown hK hP 0 rfl rfl 17 (by decide) (htb _ wd_466) (fun _ h9 => h9) rfl d_R_signOfSum_76 ?_
                              refine lv_iconst (v := nI 4) hx hb d_R_signOfSum_79 (by decide) ?_
                              refine ec_lald (f := q4) (i := 4) hx hb hK hP 13 2 rfl rfl (by omega) (by decide) d_R_signOfSum_80 ?_
                              refine lv_lconst (v := 0) hx hb d_R_signOfSum_81 (by decide) ?_
                              refine W.lcmp hx hb d_R_signOfSum_82 ?_
                              refine lv_if_gt (tgt := 90) hx hb d_R_signOfSum_83 rfl (fun h83_1 => ?_) (fun h83_1 => ?_)
                              · rw [lg_cmp_gt] at h83_1
                                refine lv_iconst (v := nI 1) hx hb d_R_signOfSum_90 (by decide) ?_
                                refine lv_goto (tgt := 95) hx hb d_R_signOfSum_91 rfl ?_
                                exact W.iret hx hb hr (fun tS ht hW => ⟨⟨_, q4, rfl, (ec_sos_p L h83_1), by show va_P _ _ _ tS.heap; rw [ht]; exact hP⟩, hS.F ht⟩) hS.2.2 d_R_signOfSum_95
                              · rw [lg_cmp_gt] at h83_1
                                refine lv_iload_n hx hb d_R_signOfSum_86 rfl (lv_at hl 1 rfl) ?_
                                refine ec_if_eq (tgt := 94) hx hb d_R_signOfSum_87 rfl (by omega) (fun h87_1 => ?_) (fun h87_1 => ?_)
                                · exact absurd h87_1 (by decide)
                                · refine lv_iconst (v := nI 1) hx hb d_R_signOfSum_90 (by decide) ?_
                                  refine lv_goto (tgt := 95) hx hb d_R_signOfSum_91 rfl ?_
                                  exact W.iret hx hb hr (fun tS ht hW => ⟨⟨_, q4, rfl, (ec_sos_s L h68_1 h83_1 (fun q => h45_3 q.2.2.2)), by show va_P _ _ _ tS.heap; rw [ht]; exact hP⟩, hS.F ht⟩) hS.2.2 d_R_signOfSum_95
                            · rw [lg_cmp_ge] at h68_1
                              refine lv_iconst (v := -1) hx hb d_R_signOfSum_71 (by decide) ?_
                              refine lv_goto (tgt := 95) hx hb d_R_signOfSum_72 rfl ?_
                              exact W.iret hx hb hr (fun tS ht hW => ⟨⟨_, q4, rfl, (ec_sos_m L h68_1), by show va_P _ _ _ tS.heap; rw [ht]; exact hP⟩, hS.F ht⟩) hS.2.2 d_R_signOfSum_95
                          · exact absurd h6_5 (by decide)
                  · rw [lg_cmp_eq] at h45_2
                    refine lv_iconst (v := nI 1) hx hb d_R_signOfSum_48 (by decide) ?_
                    refine lv_goto (tgt := 53) hx hb d_R_signOfSum_49 rfl ?_
                    refine lv_istore_n hx hb d_R_signOfSum_53 rfl hl (by decide) rfl (fun ls hl => ?_)
                    replace hl : lv_has ls 3 [(1, .int (nI 1)), (2, .int (nI 2)), (0, .ref (a 0))] := hl
                    refine ec_iinc (k := 1) hx hb d_R_signOfSum_54 hl rfl (by decide) rfl (fun ls hl => ?_)
                    replace hl : lv_has ls 3 [(2, .int (nI 3)), (1, .int (nI 1)), (0, .ref (a 0))] := hl
                    refine lv_goto (tgt := 4) hx hb d_R_signOfSum_57 rfl ?_
                    refine lv_iload_n hx hb d_R_signOfSum_4 rfl (lv_at hl 0 rfl) ?_
                    refine lv_iconst (v := nI 4) hx hb d_R_signOfSum_5 (by decide) ?_
                    refine ec_icmp_ge (tgt := 60) hx hb d_R_signOfSum_6 rfl (by omega) (by omega) (fun h6_6 => ?_) (fun h6_6 => ?_)
                    · exact absurd h6_6 (by decide)
                    · refine lv_aload_n hx hb d_R_signOfSum_9 rfl (lv_at hl 2 rfl) ?_
                      refine va_get (D := (dC, dI)) (ci := 5) (v := .ref (a 13)) (C := R_R) (T := T_R) (N := 18) hx hb htb in_R hown hK hP 0 rfl rfl 17 (by decide) (htb _ wd_466) (fun _ h9 => h9) rfl d_R_signOfSum_10 ?_
                      refine lv_iload_n hx hb d_R_signOfSum_13 rfl (lv_at hl 0 rfl) ?_
                      refine lv_iconst (v := nI 1) hx hb d_R_signOfSum_14 (by decide) ?_
                      refine ec_iadd hx hb d_R_signOfSum_15 ?_
                      refine lv_dup2_11 hx hb d_R_signOfSum_16 rfl rfl ?_
                      refine ec_lald (f := q3) (i := 4) hx hb hK hP 13 2 rfl rfl (by omega) (by decide) d_R_signOfSum_17 ?_
                      refine lv_aload_n hx hb d_R_signOfSum_18 rfl (lv_at hl 2 rfl) ?_
                      refine va_get (D := (dC, dI)) (ci := 5) (v := .ref (a 13)) (C := R_R) (T := T_R) (N := 18) hx hb htb in_R hown hK hP 0 rfl rfl 17 (by decide) (htb _ wd_466) (fun _ h9 => h9) rfl d_R_signOfSum_19 ?_
                      refine lv_iload_n hx hb d_R_signOfSum_22 rfl (lv_at hl 0 rfl) ?_
                      refine ec_lald (f := q3) (i := 3) hx hb hK hP 13 2 rfl rfl (by omega) (by decide) d_R_signOfSum_23 ?_
                      refine lv_bipush (v := nI 15) hx hb d_R_signOfSum_24 (by decide) ?_
                      refine lv_lshr hx hb d_R_signOfSum_26 rfl ?_
                      refine lv_ladd hx hb d_R_signOfSum_27 ?_
                      refine ec_last (f := q3) (i := 4) hx hb hK hP hD hS 13 2 rfl rfl (by omega) (by decide) d_R_signOfSum_28 (fun H locs hP hD hS => ?_)
                      replace hP : va_P (dC, dI) vwCl (wR a cI cZ cJ rn rx ry rl rf rt rh gx gy rc w1 w2 w3 rg rk kc kf (vp_updL q3 4 ((q3 4) + ((q3 3) >>> ((nI 15).toInt64 &&& 63)))) ++ rest) H := hP
                      replace hD : va_D A (wR a cI cZ cJ rn rx ry rl rf rt rh gx gy rc w1 w2 w3 rg rk kc kf (vp_updL q3 4 ((q3 4) + ((q3 3) >>> ((nI 15).toInt64 &&& 63)))) ++ rest) := hD
                      obtain ⟨q5, e_q5⟩ : ∃ z : Nat → Int64, z = vp_updL q3 4 ((q3 4) + ((q3 3) >>> ((nI 15).toInt64 &&& 63))) := ⟨_, rfl⟩
                      replace hP : va_P (dC, dI) vwCl (wR a cI cZ cJ rn rx ry rl rf rt rh gx gy rc w1 w2 w3 rg rk kc kf q5 ++ rest) H := by rw [e_q5]; exact hP
                      replace hD : va_D A (wR a cI cZ cJ rn rx ry rl rf rt rh gx gy rc w1 w2 w3 rg rk kc kf q5 ++ rest) := ec_Dk hD rfl
                      refine lv_iload_n hx hb d_R_signOfSum_29 rfl (lv_at hl 1 rfl) ?_
                      refine ec_if_ne (tgt := 48) hx hb d_R_signOfSum_30 rfl (by omega) (fun h30_4 => ?_) (fun h30_4 => ?_)
                      · refine lv_iconst (v := nI 1) hx hb d_R_signOfSum_48 (by decide) ?_
                        refine lv_goto (tgt := 53) hx hb d_R_signOfSum_49 rfl ?_
                        refine lv_istore_n hx hb d_R_signOfSum_53 rfl hl (by decide) rfl (fun ls hl => ?_)
                        replace hl : lv_has ls 3 [(1, .int (nI 1)), (2, .int (nI 3)), (0, .ref (a 0))] := hl
                        refine ec_iinc (k := 1) hx hb d_R_signOfSum_54 hl rfl (by decide) rfl (fun ls hl => ?_)
                        replace hl : lv_has ls 3 [(2, .int (nI 4)), (1, .int (nI 1)), (0, .ref (a 0))] := hl
                        refine lv_goto (tgt := 4) hx hb d_R_signOfSum_57 rfl ?_
                        refine lv_iload_n hx hb d_R_signOfSum_4 rfl (lv_at hl 0 rfl) ?_
                        refine lv_iconst (v := nI 4) hx hb d_R_signOfSum_5 (by decide) ?_
                        refine ec_icmp_ge (tgt := 60) hx hb d_R_signOfSum_6 rfl (by omega) (by omega) (fun h6_7 => ?_) (fun h6_7 => ?_)
                        · have L := ec_sos hKb hB e_q1 e_q2 e_q3 e_q5
                          refine lv_aload_n hx hb d_R_signOfSum_60 rfl (lv_at hl 2 rfl) ?_
                          refine va_get (D := (dC, dI)) (ci := 5) (v := .ref (a 13)) (C := R_R) (T := T_R) (N := 18) hx hb htb in_R hown hK hP 0 rfl rfl 17 (by decide) (htb _ wd_466) (fun _ h9 => h9) rfl d_R_signOfSum_61 ?_
                          refine lv_iconst (v := nI 4) hx hb d_R_signOfSum_64 (by decide) ?_
                          refine ec_lald (f := q5) (i := 4) hx hb hK hP 13 2 rfl rfl (by omega) (by decide) d_R_signOfSum_65 ?_
                          refine lv_lconst (v := 0) hx hb d_R_signOfSum_66 (by decide) ?_
                          refine W.lcmp hx hb d_R_signOfSum_67 ?_
                          refine lv_if_ge (tgt := 75) hx hb d_R_signOfSum_68 rfl (fun h68_2 => ?_) (fun h68_2 => ?_)
                          · rw [lg_cmp_ge] at h68_2
                            refine lv_aload_n hx hb d_R_signOfSum_75 rfl (lv_at hl 2 rfl) ?_
                            refine va_get (D := (dC, dI)) (ci := 5) (v := .ref (a 13)) (C := R_R) (T := T_R) (N := 18) hx hb htb in_R hown hK hP 0 rfl rfl 17 (by decide) (htb _ wd_466) (fun _ h9 => h9) rfl d_R_signOfSum_76 ?_
                            refine lv_iconst (v := nI 4) hx hb d_R_signOfSum_79 (by decide) ?_
                            refine ec_lald (f := q5) (i := 4) hx hb hK hP 13 2 rfl rfl (by omega) (by decide) d_R_signOfSum_80 ?_
                            refine lv_lconst (v := 0) hx hb d_R_signOfSum_81 (by decide) ?_
                            refine W.lcmp hx hb d_R_signOfSum_82 ?_
                            refine lv_if_gt (tgt := 90) hx hb d_R_signOfSum_83 rfl (fun h83_2 => ?_) (fun h83_2 => ?_)
                            · rw [lg_cmp_gt] at h83_2
                              refine lv_iconst (v := nI 1) hx hb d_R_signOfSum_90 (by decide) ?_
                              refine lv_goto (tgt := 95) hx hb d_R_signOfSum_91 rfl ?_
                              exact W.iret hx hb hr (fun tS ht hW => ⟨⟨_, q5, rfl, (ec_sos_p L h83_2), by show va_P _ _ _ tS.heap; rw [ht]; exact hP⟩, hS.F ht⟩) hS.2.2 d_R_signOfSum_95
                            · rw [lg_cmp_gt] at h83_2
                              refine lv_iload_n hx hb d_R_signOfSum_86 rfl (lv_at hl 1 rfl) ?_
                              refine ec_if_eq (tgt := 94) hx hb d_R_signOfSum_87 rfl (by omega) (fun h87_2 => ?_) (fun h87_2 => ?_)
                              · exact absurd h87_2 (by decide)
                              · refine lv_iconst (v := nI 1) hx hb d_R_signOfSum_90 (by decide) ?_
                                refine lv_goto (tgt := 95) hx hb d_R_signOfSum_91 rfl ?_
                                exact W.iret hx hb hr (fun tS ht hW => ⟨⟨_, q5, rfl, (ec_sos_s L h68_2 h83_2 (fun q => h45_2 q.2.2.1)), by show va_P _ _ _ tS.heap; rw [ht]; exact hP⟩, hS.F ht⟩) hS.2.2 d_R_signOfSum_95
                          · rw [lg_cmp_ge] at h68_2
                            refine lv_iconst (v := -1) hx hb d_R_signOfSum_71 (by decide) ?_
                            refine lv_goto (tgt := 95) hx hb d_R_signOfSum_72 rfl ?_
                            exact W.iret hx hb hr (fun tS ht hW => ⟨⟨_, q5, rfl, (ec_sos_m L h68_2), by show va_P _ _ _ tS.heap; rw [ht]; exact hP⟩, hS.F ht⟩) hS.2.2 d_R_signOfSum_95
                        · exact absurd h6_7 (by decide)
                      · exact absurd h30_4 (by decide)
            · rw [lg_cmp_eq] at h45_1
              refine lv_iconst (v := nI 1) hx hb d_R_signOfSum_48 (by decide) ?_
              refine lv_goto (tgt := 53) hx hb d_R_signOfSum_49 rfl ?_
              refine lv_istore_n hx hb d_R_signOfSum_53 rfl hl (by decide) rfl (fun ls hl => ?_)
              replace hl : lv_has ls 3 [(1, .int (nI 1)), (2, .int (nI 1)), (0, .ref (a 0))] := hl
              refine ec_iinc (k := 1) hx hb d_R_signOfSum_54 hl rfl (by decide) rfl (fun ls hl => ?_)
              replace hl : lv_has ls 3 [(2, .int (nI 2)), (1, .int (nI 1)), (0, .ref (a 0))] := hl
              refine lv_goto (tgt := 4) hx hb d_R_signOfSum_57 rfl ?_
              refine lv_iload_n hx hb d_R_signOfSum_4 rfl (lv_at hl 0 rfl) ?_
              refine lv_iconst (v := nI 4) hx hb d_R_signOfSum_5 (by decide) ?_
              refine ec_icmp_ge (tgt := 60) hx hb d_R_signOfSum_6 rfl (by omega) (by omega) (fun h6_8 => ?_) (fun h6_8 => ?_)
              · exact absurd h6_8 (by decide)
              · refine lv_aload_n hx hb d_R_signOfSum_9 rfl (lv_at hl 2 rfl) ?_
                refine va_get (D := (dC, dI)) (ci := 5) (v := .ref (a 13)) (C := R_R) (T := T_R) (N := 18) hx hb htb in_R hown hK hP 0 rfl rfl 17 (by decide) (htb _ wd_466) (fun _ h9 => h9) rfl d_R_signOfSum_10 ?_
                refine lv_iload_n hx hb d_R_signOfSum_13 rfl (lv_at hl 0 rfl) ?_
                refine lv_iconst (v := nI 1) hx hb d_R_signOfSum_14 (by decide) ?_
                refine ec_iadd hx hb d_R_signOfSum_15 ?_
                refine lv_dup2_11 hx hb d_R_signOfSum_16 rfl rfl ?_
                refine ec_lald (f := q2) (i := 3) hx hb hK hP 13 2 rfl rfl (by omega) (by decide) d_R_signOfSum_17 ?_
                refine lv_aload_n hx hb d_R_signOfSum_18 rfl (lv_at hl 2 rfl) ?_
                refine va_get (D := (dC, dI)) (ci := 5) (v := .ref (a 13)) (C := R_R) (T := T_R) (N := 18) hx hb htb in_R hown hK hP 0 rfl rfl 17 (by decide) (htb _ wd_466) (fun _ h9 => h9) rfl d_R_signOfSum_19 ?_
                refine lv_iload_n hx hb d_R_signOfSum_22 rfl (lv_at hl 0 rfl) ?_
                refine ec_lald (f := q2) (i := 2) hx hb hK hP 13 2 rfl rfl (by omega) (by decide) d_R_signOfSum_23 ?_
                refine lv_bipush (v := nI 15) hx hb d_R_signOfSum_24 (by decide) ?_
                refine lv_lshr hx hb d_R_signOfSum_26 rfl ?_
                refine lv_ladd hx hb d_R_signOfSum_27 ?_
                refine ec_last (f := q2) (i := 3) hx hb hK hP hD hS 13 2 rfl rfl (by omega) (by decide) d_R_signOfSum_28 (fun H locs hP hD hS => ?_)
                replace hP : va_P (dC, dI) vwCl (wR a cI cZ cJ rn rx ry rl rf rt rh gx gy rc w1 w2 w3 rg rk kc kf (vp_updL q2 3 ((q2 3) + ((q2 2) >>> ((nI 15).toInt64 &&& 63)))) ++ rest) H := hP
                replace hD : va_D A (wR a cI cZ cJ rn rx ry rl rf rt rh gx gy rc w1 w2 w3 rg rk kc kf (vp_updL q2 3 ((q2 3) + ((q2 2) >>> ((nI 15).toInt64 &&& 63)))) ++ rest) := hD
                obtain ⟨q6, e_q6⟩ : ∃ z : Nat → Int64, z = vp_updL q2 3 ((q2 3) + ((q2 2) >>> ((nI 15).toInt64 &&& 63))) := ⟨_, rfl⟩
                replace hP : va_P (dC, dI) vwCl (wR a cI cZ cJ rn rx ry rl rf rt rh gx gy rc w1 w2 w3 rg rk kc kf q6 ++ rest) H := by rw [e_q6]; exact hP
                replace hD : va_D A (wR a cI cZ cJ rn rx ry rl rf rt rh gx gy rc w1 w2 w3 rg rk kc kf q6 ++ rest) := ec_Dk hD rfl
                refine lv_iload_n hx hb d_R_signOfSum_29 rfl (lv_at hl 1 rfl) ?_
                refine ec_if_ne (tgt := 48) hx hb d_R_signOfSum_30 rfl (by omega) (fun h30_5 => ?_) (fun h30_5 => ?_)
                · refine lv_iconst (v := nI 1) hx hb d_R_signOfSum_48 (by decide) ?_
                  refine lv_goto (tgt := 53) hx hb d_R_signOfSum_49 rfl ?_
                  refine lv_istore_n hx hb d_R_signOfSum_53 rfl hl (by decide) rfl (fun ls hl => ?_)
                  replace hl : lv_has ls 3 [(1, .int (nI 1)), (2, .int (nI 2)), (0, .ref (a 0))] := hl
                  refine ec_iinc (k := 1) hx hb d_R_signOfSum_54 hl rfl (by decide) rfl (fun ls hl => ?_)
                  replace hl : lv_has ls 3 [(2, .int (nI 3)), (1, .int (nI 1)), (0, .ref (a 0))] := hl
                  refine lv_goto (tgt := 4) hx hb d_R_signOfSum_57 rfl ?_
                  refine lv_iload_n hx hb d_R_signOfSum_4 rfl (lv_at hl 0 rfl) ?_
                  refine lv_iconst (v := nI 4) hx hb d_R_signOfSum_5 (by decide) ?_
                  refine ec_icmp_ge (tgt := 60) hx hb d_R_signOfSum_6 rfl (by omega) (by omega) (fun h6_9 => ?_) (fun h6_9 => ?_)
                  · exact absurd h6_9 (by decide)
                  · refine lv_aload_n hx hb d_R_signOfSum_9 rfl (lv_at hl 2 rfl) ?_
                    refine va_get (D := (dC, dI)) (ci := 5) (v := .ref (a 13)) (C := R_R) (T := T_R) (N := 18) hx hb htb in_R hown hK hP 0 rfl rfl 17 (by decide) (htb _ wd_466) (fun _ h9 => h9) rfl d_R_signOfSum_10 ?_
                    refine lv_iload_n hx hb d_R_signOfSum_13 rfl (lv_at hl 0 rfl) ?_
                    refine lv_iconst (v := nI 1) hx hb d_R_signOfSum_14 (by decide) ?_
                    refine ec_iadd hx hb d_R_signOfSum_15 ?_
                    refine lv_dup2_11 hx hb d_R_signOfSum_16 rfl rfl ?_
                    refine ec_lald (f := q6) (i := 4) hx hb hK hP 13 2 rfl rfl (by omega) (by decide) d_R_signOfSum_17 ?_
                    refine lv_aload_n hx hb d_R_signOfSum_18 rfl (lv_at hl 2 rfl) ?_
                    refine va_get (D := (dC, dI)) (ci := 5) (v := .ref (a 13)) (C := R_R) (T := T_R) (N := 18) hx hb htb in_R hown hK hP 0 rfl rfl 17 (by decide) (htb _ wd_466) (fun _ h9 => h9) rfl d_R_signOfSum_19 ?_
                    refine lv_iload_n hx hb d_R_signOfSum_22 rfl (lv_at hl 0 rfl) ?_
                    refine ec_lald (f := q6) (i := 3) hx hb hK hP 13 2 rfl rfl (by omega) (by decide) d_R_signOfSum_23 ?_
                    refine lv_bipush (v := nI 15) hx hb d_R_signOfSum_24 (by decide) ?_
                    refine lv_lshr hx hb d_R_signOfSum_26 rfl ?_
                    refine lv_ladd hx hb d_R_signOfSum_27 ?_
                    refine ec_last (f := q6) (i := 4) hx hb hK hP hD hS 13 2 rfl rfl (by omega) (by decide) d_R_signOfSum_28 (fun H locs hP hD hS => ?_)
                    replace hP : va_P (dC, dI) vwCl (wR a cI cZ cJ rn rx ry rl rf rt rh gx gy rc w1 w2 w3 rg rk kc kf (vp_updL q6 4 ((q6 4) + ((q6 3) >>> ((nI 15).toInt64 &&& 63)))) ++ rest) H := hP
                    replace hD : va_D A (wR a cI cZ cJ rn rx ry rl rf rt rh gx gy rc w1 w2 w3 rg rk kc kf (vp_updL q6 4 ((q6 4) + ((q6 3) >>> ((nI 15).toInt64 &&& 63)))) ++ rest) := hD
                    obtain ⟨q7, e_q7⟩ : ∃ z : Nat → Int64, z = vp_updL q6 4 ((q6 4) + ((q6 3) >>> ((nI 15).toInt64 &&& 63))) := ⟨_, rfl⟩
                    replace hP : va_P (dC, dI) vwCl (wR a cI cZ cJ rn rx ry rl rf rt rh gx gy rc w1 w2 w3 rg rk kc kf q7 ++ rest) H := by rw [e_q7]; exact hP
                    replace hD : va_D A (wR a cI cZ cJ rn rx ry rl rf rt rh gx gy rc w1 w2 w3 rg rk kc kf q7 ++ rest) := ec_Dk hD rfl
                    refine lv_iload_n hx hb d_R_signOfSum_29 rfl (lv_at hl 1 rfl) ?_
                    refine ec_if_ne (tgt := 48) hx hb d_R_signOfSum_30 rfl (by omega) (fun h30_6 => ?_) (fun h30_6 => ?_)
                    · refine lv_iconst (v := nI 1) hx hb d_R_signOfSum_48 (by decide) ?_
                      refine lv_goto (tgt := 53) hx hb d_R_signOfSum_49 rfl ?_
                      refine lv_istore_n hx hb d_R_signOfSum_53 rfl hl (by decide) rfl (fun ls hl => ?_)
                      replace hl : lv_has ls 3 [(1, .int (nI 1)), (2, .int (nI 3)), (0, .ref (a 0))] := hl
                      refine ec_iinc (k := 1) hx hb d_R_signOfSum_54 hl rfl (by decide) rfl (fun ls hl => ?_)
                      replace hl : lv_has ls 3 [(2, .int (nI 4)), (1, .int (nI 1)), (0, .ref (a 0))] := hl
                      refine lv_goto (tgt := 4) hx hb d_R_signOfSum_57 rfl ?_
                      refine lv_iload_n hx hb d_R_signOfSum_4 rfl (lv_at hl 0 rfl) ?_
                      refine lv_iconst (v := nI 4) hx hb d_R_signOfSum_5 (by decide) ?_
                      refine ec_icmp_ge (tgt := 60) hx hb d_R_signOfSum_6 rfl (by omega) (by omega) (fun h6_10 => ?_) (fun h6_10 => ?_)
                      · have L := ec_sos hKb hB e_q1 e_q2 e_q6 e_q7
                        refine lv_aload_n hx hb d_R_signOfSum_60 rfl (lv_at hl 2 rfl) ?_
                        refine va_get (D := (dC, dI)) (ci := 5) (v := .ref (a 13)) (C := R_R) (T := T_R) (N := 18) hx hb htb in_R hown hK hP 0 rfl rfl 17 (by decide) (htb _ wd_466) (fun _ h9 => h9) rfl d_R_signOfSum_61 ?_
                        refine lv_iconst (v := nI 4) hx hb d_R_signOfSum_64 (by decide) ?_
                        refine ec_lald (f := q7) (i := 4) hx hb hK hP 13 2 rfl rfl (by omega) (by decide) d_R_signOfSum_65 ?_
                        refine lv_lconst (v := 0) hx hb d_R_signOfSum_66 (by decide) ?_
                        refine W.lcmp hx hb d_R_signOfSum_67 ?_
                        refine lv_if_ge (tgt := 75) hx hb d_R_signOfSum_68 rfl (fun h68_3 => ?_) (fun h68_3 => ?_)
                        · rw [lg_cmp_ge] at h68_3
                          refine lv_aload_n hx hb d_R_signOfSum_75 rfl (lv_at hl 2 rfl) ?_
                          refine va_get (D := (dC, dI)) (ci := 5) (v := .ref (a 13)) (C := R_R) (T := T_R) (N := 18) hx hb htb in_R hown hK hP 0 rfl rfl 17 (by decide) (htb _ wd_466) (fun _ h9 => h9) rfl d_R_signOfSum_76 ?_
                          refine lv_iconst (v := nI 4) hx hb d_R_signOfSum_79 (by decide) ?_
                          refine ec_lald (f := q7) (i := 4) hx hb hK hP 13 2 rfl rfl (by omega) (by decide) d_R_signOfSum_80 ?_
                          refine lv_lconst (v := 0) hx hb d_R_signOfSum_81 (by decide) ?_
                          refine W.lcmp hx hb d_R_signOfSum_82 ?_
                          refine lv_if_gt (tgt := 90) hx hb d_R_signOfSum_83 rfl (fun h83_3 => ?_) (fun h83_3 => ?_)
                          · rw [lg_cmp_gt] at h83_3
                            refine lv_iconst (v := nI 1) hx hb d_R_signOfSum_90 (by decide) ?_
                            refine lv_goto (tgt := 95) hx hb d_R_signOfSum_91 rfl ?_
                            exact W.iret hx hb hr (fun tS ht hW => ⟨⟨_, q7, rfl, (ec_sos_p L h83_3), by show va_P _ _ _ tS.heap; rw [ht]; exact hP⟩, hS.F ht⟩) hS.2.2 d_R_signOfSum_95
                          · rw [lg_cmp_gt] at h83_3
                            refine lv_iload_n hx hb d_R_signOfSum_86 rfl (lv_at hl 1 rfl) ?_
                            refine ec_if_eq (tgt := 94) hx hb d_R_signOfSum_87 rfl (by omega) (fun h87_3 => ?_) (fun h87_3 => ?_)
                            · exact absurd h87_3 (by decide)
                            · refine lv_iconst (v := nI 1) hx hb d_R_signOfSum_90 (by decide) ?_
                              refine lv_goto (tgt := 95) hx hb d_R_signOfSum_91 rfl ?_
                              exact W.iret hx hb hr (fun tS ht hW => ⟨⟨_, q7, rfl, (ec_sos_s L h68_3 h83_3 (fun q => h45_1 q.2.1)), by show va_P _ _ _ tS.heap; rw [ht]; exact hP⟩, hS.F ht⟩) hS.2.2 d_R_signOfSum_95
                        · rw [lg_cmp_ge] at h68_3
                          refine lv_iconst (v := -1) hx hb d_R_signOfSum_71 (by decide) ?_
                          refine lv_goto (tgt := 95) hx hb d_R_signOfSum_72 rfl ?_
                          exact W.iret hx hb hr (fun tS ht hW => ⟨⟨_, q7, rfl, (ec_sos_m L h68_3), by show va_P _ _ _ tS.heap; rw [ht]; exact hP⟩, hS.F ht⟩) hS.2.2 d_R_signOfSum_95
                      · exact absurd h6_10 (by decide)
                    · exact absurd h30_6 (by decide)
                · exact absurd h30_5 (by decide)
      · rw [lg_cmp_eq] at h45
        refine lv_iconst (v := nI 1) hx hb d_R_signOfSum_48 (by decide) ?_
        refine lv_goto (tgt := 53) hx hb d_R_signOfSum_49 rfl ?_
        refine lv_istore_n hx hb d_R_signOfSum_53 rfl hl (by decide) rfl (fun ls hl => ?_)
        replace hl : lv_has ls 3 [(1, .int (nI 1)), (2, .int (nI 0)), (0, .ref (a 0))] := hl
        refine ec_iinc (k := 1) hx hb d_R_signOfSum_54 hl rfl (by decide) rfl (fun ls hl => ?_)
        replace hl : lv_has ls 3 [(2, .int (nI 1)), (1, .int (nI 1)), (0, .ref (a 0))] := hl
        refine lv_goto (tgt := 4) hx hb d_R_signOfSum_57 rfl ?_
        refine lv_iload_n hx hb d_R_signOfSum_4 rfl (lv_at hl 0 rfl) ?_
        refine lv_iconst (v := nI 4) hx hb d_R_signOfSum_5 (by decide) ?_
        refine ec_icmp_ge (tgt := 60) hx hb d_R_signOfSum_6 rfl (by omega) (by omega) (fun h6_11 => ?_) (fun h6_11 => ?_)
        · exact absurd h6_11 (by decide)
        · refine lv_aload_n hx hb d_R_signOfSum_9 rfl (lv_at hl 2 rfl) ?_
          refine va_get (D := (dC, dI)) (ci := 5) (v := .ref (a 13)) (C := R_R) (T := T_R) (N := 18) hx hb htb in_R hown hK hP 0 rfl rfl 17 (by decide) (htb _ wd_466) (fun _ h9 => h9) rfl d_R_signOfSum_10 ?_
          refine lv_iload_n hx hb d_R_signOfSum_13 rfl (lv_at hl 0 rfl) ?_
          refine lv_iconst (v := nI 1) hx hb d_R_signOfSum_14 (by decide) ?_
          refine ec_iadd hx hb d_R_signOfSum_15 ?_
          refine lv_dup2_11 hx hb d_R_signOfSum_16 rfl rfl ?_
          refine ec_lald (f := q1) (i := 2) hx hb hK hP 13 2 rfl rfl (by omega) (by decide) d_R_signOfSum_17 ?_
          refine lv_aload_n hx hb d_R_signOfSum_18 rfl (lv_at hl 2 rfl) ?_
          refine va_get (D := (dC, dI)) (ci := 5) (v := .ref (a 13)) (C := R_R) (T := T_R) (N := 18) hx hb htb in_R hown hK hP 0 rfl rfl 17 (by decide) (htb _ wd_466) (fun _ h9 => h9) rfl d_R_signOfSum_19 ?_
          refine lv_iload_n hx hb d_R_signOfSum_22 rfl (lv_at hl 0 rfl) ?_
          refine ec_lald (f := q1) (i := 1) hx hb hK hP 13 2 rfl rfl (by omega) (by decide) d_R_signOfSum_23 ?_
          refine lv_bipush (v := nI 15) hx hb d_R_signOfSum_24 (by decide) ?_
          refine lv_lshr hx hb d_R_signOfSum_26 rfl ?_
          refine lv_ladd hx hb d_R_signOfSum_27 ?_
          refine ec_last (f := q1) (i := 2) hx hb hK hP hD hS 13 2 rfl rfl (by omega) (by decide) d_R_signOfSum_28 (fun H locs hP hD hS => ?_)
          replace hP : va_P (dC, dI) vwCl (wR a cI cZ cJ rn rx ry rl rf rt rh gx gy rc w1 w2 w3 rg rk kc kf (vp_updL q1 2 ((q1 2) + ((q1 1) >>> ((nI 15).toInt64 &&& 63)))) ++ rest) H := hP
          replace hD : va_D A (wR a cI cZ cJ rn rx ry rl rf rt rh gx gy rc w1 w2 w3 rg rk kc kf (vp_updL q1 2 ((q1 2) + ((q1 1) >>> ((nI 15).toInt64 &&& 63)))) ++ rest) := hD
          obtain ⟨q8, e_q8⟩ : ∃ z : Nat → Int64, z = vp_updL q1 2 ((q1 2) + ((q1 1) >>> ((nI 15).toInt64 &&& 63))) := ⟨_, rfl⟩
          replace hP : va_P (dC, dI) vwCl (wR a cI cZ cJ rn rx ry rl rf rt rh gx gy rc w1 w2 w3 rg rk kc kf q8 ++ rest) H := by rw [e_q8]; exact hP
          replace hD : va_D A (wR a cI cZ cJ rn rx ry rl rf rt rh gx gy rc w1 w2 w3 rg rk kc kf q8 ++ rest) := ec_Dk hD rfl
          refine lv_iload_n hx hb d_R_signOfSum_29 rfl (lv_at hl 1 rfl) ?_
          refine ec_if_ne (tgt := 48) hx hb d_R_signOfSum_30 rfl (by omega) (fun h30_7 => ?_) (fun h30_7 => ?_)
          · refine lv_iconst (v := nI 1) hx hb d_R_signOfSum_48 (by decide) ?_
            refine lv_goto (tgt := 53) hx hb d_R_signOfSum_49 rfl ?_
            refine lv_istore_n hx hb d_R_signOfSum_53 rfl hl (by decide) rfl (fun ls hl => ?_)
            replace hl : lv_has ls 3 [(1, .int (nI 1)), (2, .int (nI 1)), (0, .ref (a 0))] := hl
            refine ec_iinc (k := 1) hx hb d_R_signOfSum_54 hl rfl (by decide) rfl (fun ls hl => ?_)
            replace hl : lv_has ls 3 [(2, .int (nI 2)), (1, .int (nI 1)), (0, .ref (a 0))] := hl
            refine lv_goto (tgt := 4) hx hb d_R_signOfSum_57 rfl ?_
            refine lv_iload_n hx hb d_R_signOfSum_4 rfl (lv_at hl 0 rfl) ?_
            refine lv_iconst (v := nI 4) hx hb d_R_signOfSum_5 (by decide) ?_
            refine ec_icmp_ge (tgt := 60) hx hb d_R_signOfSum_6 rfl (by omega) (by omega) (fun h6_12 => ?_) (fun h6_12 => ?_)
            · exact absurd h6_12 (by decide)
            · refine lv_aload_n hx hb d_R_signOfSum_9 rfl (lv_at hl 2 rfl) ?_
              refine va_get (D := (dC, dI)) (ci := 5) (v := .ref (a 13)) (C := R_R) (T := T_R) (N := 18) hx hb htb in_R hown hK hP 0 rfl rfl 17 (by decide) (htb _ wd_466) (fun _ h9 => h9) rfl d_R_signOfSum_10 ?_
              refine lv_iload_n hx hb d_R_signOfSum_13 rfl (lv_at hl 0 rfl) ?_
              refine lv_iconst (v := nI 1) hx hb d_R_signOfSum_14 (by decide) ?_
              refine ec_iadd hx hb d_R_signOfSum_15 ?_
              refine lv_dup2_11 hx hb d_R_signOfSum_16 rfl rfl ?_
              refine ec_lald (f := q8) (i := 3) hx hb hK hP 13 2 rfl rfl (by omega) (by decide) d_R_signOfSum_17 ?_
              refine lv_aload_n hx hb d_R_signOfSum_18 rfl (lv_at hl 2 rfl) ?_
              refine va_get (D := (dC, dI)) (ci := 5) (v := .ref (a 13)) (C := R_R) (T := T_R) (N := 18) hx hb htb in_R hown hK hP 0 rfl rfl 17 (by decide) (htb _ wd_466) (fun _ h9 => h9) rfl d_R_signOfSum_19 ?_
              refine lv_iload_n hx hb d_R_signOfSum_22 rfl (lv_at hl 0 rfl) ?_
              refine ec_lald (f := q8) (i := 2) hx hb hK hP 13 2 rfl rfl (by omega) (by decide) d_R_signOfSum_23 ?_
              refine lv_bipush (v := nI 15) hx hb d_R_signOfSum_24 (by decide) ?_
              refine lv_lshr hx hb d_R_signOfSum_26 rfl ?_
              refine lv_ladd hx hb d_R_signOfSum_27 ?_
              refine ec_last (f := q8) (i := 3) hx hb hK hP hD hS 13 2 rfl rfl (by omega) (by decide) d_R_signOfSum_28 (fun H locs hP hD hS => ?_)
              replace hP : va_P (dC, dI) vwCl (wR a cI cZ cJ rn rx ry rl rf rt rh gx gy rc w1 w2 w3 rg rk kc kf (vp_updL q8 3 ((q8 3) + ((q8 2) >>> ((nI 15).toInt64 &&& 63)))) ++ rest) H := hP
              replace hD : va_D A (wR a cI cZ cJ rn rx ry rl rf rt rh gx gy rc w1 w2 w3 rg rk kc kf (vp_updL q8 3 ((q8 3) + ((q8 2) >>> ((nI 15).toInt64 &&& 63)))) ++ rest) := hD
              obtain ⟨q9, e_q9⟩ : ∃ z : Nat → Int64, z = vp_updL q8 3 ((q8 3) + ((q8 2) >>> ((nI 15).toInt64 &&& 63))) := ⟨_, rfl⟩
              replace hP : va_P (dC, dI) vwCl (wR a cI cZ cJ rn rx ry rl rf rt rh gx gy rc w1 w2 w3 rg rk kc kf q9 ++ rest) H := by rw [e_q9]; exact hP
              replace hD : va_D A (wR a cI cZ cJ rn rx ry rl rf rt rh gx gy rc w1 w2 w3 rg rk kc kf q9 ++ rest) := ec_Dk hD rfl
              refine lv_iload_n hx hb d_R_signOfSum_29 rfl (lv_at hl 1 rfl) ?_
              refine ec_if_ne (tgt := 48) hx hb d_R_signOfSum_30 rfl (by omega) (fun h30_8 => ?_) (fun h30_8 => ?_)
              · refine lv_iconst (v := nI 1) hx hb d_R_signOfSum_48 (by decide) ?_
                refine lv_goto (tgt := 53) hx hb d_R_signOfSum_49 rfl ?_
                refine lv_istore_n hx hb d_R_signOfSum_53 rfl hl (by decide) rfl (fun ls hl => ?_)
                replace hl : lv_has ls 3 [(1, .int (nI 1)), (2, .int (nI 2)), (0, .ref (a 0))] := hl
                refine ec_iinc (k := 1) hx hb d_R_signOfSum_54 hl rfl (by decide) rfl (fun ls hl => ?_)
                replace hl : lv_has ls 3 [(2, .int (nI 3)), (1, .int (nI 1)), (0, .ref (a 0))] := hl
                refine lv_goto (tgt := 4) hx hb d_R_signOfSum_57 rfl ?_
                refine lv_iload_n hx hb d_R_signOfSum_4 rfl (lv_at hl 0 rfl) ?_
                refine lv_iconst (v := nI 4) hx hb d_R_signOfSum_5 (by decide) ?_
                refine ec_icmp_ge (tgt := 60) hx hb d_R_signOfSum_6 rfl (by omega) (by omega) (fun h6_13 => ?_) (fun h6_13 => ?_)
                · exact absurd h6_13 (by decide)
                · refine lv_aload_n hx hb d_R_signOfSum_9 rfl (lv_at hl 2 rfl) ?_
                  refine va_get (D := (dC, dI)) (ci := 5) (v := .ref (a 13)) (C := R_R) (T := T_R) (N := 18) hx hb htb in_R hown hK hP 0 rfl rfl 17 (by decide) (htb _ wd_466) (fun _ h9 => h9) rfl d_R_signOfSum_10 ?_
                  refine lv_iload_n hx hb d_R_signOfSum_13 rfl (lv_at hl 0 rfl) ?_
                  refine lv_iconst (v := nI 1) hx hb d_R_signOfSum_14 (by decide) ?_
                  refine ec_iadd hx hb d_R_signOfSum_15 ?_
                  refine lv_dup2_11 hx hb d_R_signOfSum_16 rfl rfl ?_
                  refine ec_lald (f := q9) (i := 4) hx hb hK hP 13 2 rfl rfl (by omega) (by decide) d_R_signOfSum_17 ?_
                  refine lv_aload_n hx hb d_R_signOfSum_18 rfl (lv_at hl 2 rfl) ?_
                  refine va_get (D := (dC, dI)) (ci := 5) (v := .ref (a 13)) (C := R_R) (T := T_R) (N := 18) hx hb htb in_R hown hK hP 0 rfl rfl 17 (by decide) (htb _ wd_466) (fun _ h9 => h9) rfl d_R_signOfSum_19 ?_
                  refine lv_iload_n hx hb d_R_signOfSum_22 rfl (lv_at hl 0 rfl) ?_
                  refine ec_lald (f := q9) (i := 3) hx hb hK hP 13 2 rfl rfl (by omega) (by decide) d_R_signOfSum_23 ?_
                  refine lv_bipush (v := nI 15) hx hb d_R_signOfSum_24 (by decide) ?_
                  refine lv_lshr hx hb d_R_signOfSum_26 rfl ?_
                  refine lv_ladd hx hb d_R_signOfSum_27 ?_
                  refine ec_last (f := q9) (i := 4) hx hb hK hP hD hS 13 2 rfl rfl (by omega) (by decide) d_R_signOfSum_28 (fun H locs hP hD hS => ?_)
                  replace hP : va_P (dC, dI) vwCl (wR a cI cZ cJ rn rx ry rl rf rt rh gx gy rc w1 w2 w3 rg rk kc kf (vp_updL q9 4 ((q9 4) + ((q9 3) >>> ((nI 15).toInt64 &&& 63)))) ++ rest) H := hP
                  replace hD : va_D A (wR a cI cZ cJ rn rx ry rl rf rt rh gx gy rc w1 w2 w3 rg rk kc kf (vp_updL q9 4 ((q9 4) + ((q9 3) >>> ((nI 15).toInt64 &&& 63)))) ++ rest) := hD
                  obtain ⟨q10, e_q10⟩ : ∃ z : Nat → Int64, z = vp_updL q9 4 ((q9 4) + ((q9 3) >>> ((nI 15).toInt64 &&& 63))) := ⟨_, rfl⟩
                  replace hP : va_P (dC, dI) vwCl (wR a cI cZ cJ rn rx ry rl rf rt rh gx gy rc w1 w2 w3 rg rk kc kf q10 ++ rest) H := by rw [e_q10]; exact hP
                  replace hD : va_D A (wR a cI cZ cJ rn rx ry rl rf rt rh gx gy rc w1 w2 w3 rg rk kc kf q10 ++ rest) := ec_Dk hD rfl
                  refine lv_iload_n hx hb d_R_signOfSum_29 rfl (lv_at hl 1 rfl) ?_
                  refine ec_if_ne (tgt := 48) hx hb d_R_signOfSum_30 rfl (by omega) (fun h30_9 => ?_) (fun h30_9 => ?_)
                  · refine lv_iconst (v := nI 1) hx hb d_R_signOfSum_48 (by decide) ?_
                    refine lv_goto (tgt := 53) hx hb d_R_signOfSum_49 rfl ?_
                    refine lv_istore_n hx hb d_R_signOfSum_53 rfl hl (by decide) rfl (fun ls hl => ?_)
                    replace hl : lv_has ls 3 [(1, .int (nI 1)), (2, .int (nI 3)), (0, .ref (a 0))] := hl
                    refine ec_iinc (k := 1) hx hb d_R_signOfSum_54 hl rfl (by decide) rfl (fun ls hl => ?_)
                    replace hl : lv_has ls 3 [(2, .int (nI 4)), (1, .int (nI 1)), (0, .ref (a 0))] := hl
                    refine lv_goto (tgt := 4) hx hb d_R_signOfSum_57 rfl ?_
                    refine lv_iload_n hx hb d_R_signOfSum_4 rfl (lv_at hl 0 rfl) ?_
                    refine lv_iconst (v := nI 4) hx hb d_R_signOfSum_5 (by decide) ?_
                    refine ec_icmp_ge (tgt := 60) hx hb d_R_signOfSum_6 rfl (by omega) (by omega) (fun h6_14 => ?_) (fun h6_14 => ?_)
                    · have L := ec_sos hKb hB e_q1 e_q8 e_q9 e_q10
                      refine lv_aload_n hx hb d_R_signOfSum_60 rfl (lv_at hl 2 rfl) ?_
                      refine va_get (D := (dC, dI)) (ci := 5) (v := .ref (a 13)) (C := R_R) (T := T_R) (N := 18) hx hb htb in_R hown hK hP 0 rfl rfl 17 (by decide) (htb _ wd_466) (fun _ h9 => h9) rfl d_R_signOfSum_61 ?_
                      refine lv_iconst (v := nI 4) hx hb d_R_signOfSum_64 (by decide) ?_
                      refine ec_lald (f := q10) (i := 4) hx hb hK hP 13 2 rfl rfl (by omega) (by decide) d_R_signOfSum_65 ?_
                      refine lv_lconst (v := 0) hx hb d_R_signOfSum_66 (by decide) ?_
                      refine W.lcmp hx hb d_R_signOfSum_67 ?_
                      refine lv_if_ge (tgt := 75) hx hb d_R_signOfSum_68 rfl (fun h68_4 => ?_) (fun h68_4 => ?_)
                      · rw [lg_cmp_ge] at h68_4
                        refine lv_aload_n hx hb d_R_signOfSum_75 rfl (lv_at hl 2 rfl) ?_
                        refine va_get (D := (dC, dI)) (ci := 5) (v := .ref (a 13)) (C := R_R) (T := T_R) (N := 18) hx hb htb in_R hown hK hP 0 rfl rfl 17 (by decide) (htb _ wd_466) (fun _ h9 => h9) rfl d_R_signOfSum_76 ?_
                        refine lv_iconst (v := nI 4) hx hb d_R_signOfSum_79 (by decide) ?_
                        refine ec_lald (f := q10) (i := 4) hx hb hK hP 13 2 rfl rfl (by omega) (by decide) d_R_signOfSum_80 ?_
                        refine lv_lconst (v := 0) hx hb d_R_signOfSum_81 (by decide) ?_
                        refine W.lcmp hx hb d_R_signOfSum_82 ?_
                        refine lv_if_gt (tgt := 90) hx hb d_R_signOfSum_83 rfl (fun h83_4 => ?_) (fun h83_4 => ?_)
                        · rw [lg_cmp_gt] at h83_4
                          refine lv_iconst (v := nI 1) hx hb d_R_signOfSum_90 (by decide) ?_
                          refine lv_goto (tgt := 95) hx hb d_R_signOfSum_91 rfl ?_
                          exact W.iret hx hb hr (fun tS ht hW => ⟨⟨_, q10, rfl, (ec_sos_p L h83_4), by show va_P _ _ _ tS.heap; rw [ht]; exact hP⟩, hS.F ht⟩) hS.2.2 d_R_signOfSum_95
                        · rw [lg_cmp_gt] at h83_4
                          refine lv_iload_n hx hb d_R_signOfSum_86 rfl (lv_at hl 1 rfl) ?_
                          refine ec_if_eq (tgt := 94) hx hb d_R_signOfSum_87 rfl (by omega) (fun h87_4 => ?_) (fun h87_4 => ?_)
                          · exact absurd h87_4 (by decide)
                          · refine lv_iconst (v := nI 1) hx hb d_R_signOfSum_90 (by decide) ?_
                            refine lv_goto (tgt := 95) hx hb d_R_signOfSum_91 rfl ?_
                            exact W.iret hx hb hr (fun tS ht hW => ⟨⟨_, q10, rfl, (ec_sos_s L h68_4 h83_4 (fun q => h45 q.1)), by show va_P _ _ _ tS.heap; rw [ht]; exact hP⟩, hS.F ht⟩) hS.2.2 d_R_signOfSum_95
                      · rw [lg_cmp_ge] at h68_4
                        refine lv_iconst (v := -1) hx hb d_R_signOfSum_71 (by decide) ?_
                        refine lv_goto (tgt := 95) hx hb d_R_signOfSum_72 rfl ?_
                        exact W.iret hx hb hr (fun tS ht hW => ⟨⟨_, q10, rfl, (ec_sos_m L h68_4), by show va_P _ _ _ tS.heap; rw [ht]; exact hP⟩, hS.F ht⟩) hS.2.2 d_R_signOfSum_95
                    · exact absurd h6_14 (by decide)
                  · exact absurd h30_9 (by decide)
              · exact absurd h30_8 (by decide)
          · exact absurd h30_7 (by decide)

set_option maxRecDepth 100000 in
set_option maxHeartbeats 4000000 in
theorem c_R_circle (l : Launch) (dC : Nat → ClassId) (dI : Nat → Nat → Nat) (a : Nat → Nat) (cI cZ cJ : ClassId) (rn : Nat) (rx : Nat → Int32) (ry : Nat → Int32) (rl : Nat) (rf : Nat → Nat) (rt : Nat → Nat) (rh : Nat) (gx : Nat → Int32) (gy : Nat → Int32) (rc : Nat) (w1 : Nat → Nat) (w2 : Nat → Nat) (w3 : Nat → Nat) (rg : Nat → Prop) (rk : Nat) (kc : Nat → Nat) (kf : Nat → Prop) (kp : Nat → Int64) (rest : va_W) (i : Nat) (j : Nat) (k : Nat) (i4 : Nat) (g12 : rn ≤ 12) (gN : ∀ i, i < rn → ec_near (rx i) ∧ ec_near (ry i)) (hi : i < rn) (hj : j < rn) (hk : k < rn) (hi4 : i4 < rn) (A : Nat → Prop) (hD : va_D A (wR a cI cZ cJ rn rx ry rl rf rt rh gx gy rc w1 w2 w3 rg rk kc kf kp ++ rest)) : Met l y_R_circle (Cond.code y_R_circle b_R_circle 18 (some .int) :: ec_tbl) ({ frames := 1, cells := 0, slots := 0, locals := 30 }) (va_Pc [.ref (a 0), .int (nI i), .int (nI j), .int (nI k), .int (nI i4)] (fun U => va_P (dC, dI) vwCl (wR a cI cZ cJ rn rx ry rl rf rt rh gx gy rc w1 w2 w3 rg rk kc kf kp ++ rest) U.heap ∧ va_K (dC, dI) vwCl (ec_tys cI cZ cJ) U)) (va_Qi (fun (r : Int32) (u : Nat → Int64) => r = ec_sgn (ec_circ rx ry i j k i4)) (fun u t => va_P (dC, dI) vwCl (wR a cI cZ cJ rn rx ry rl rf rt rh gx gy rc w1 w2 w3 rg rk kc kf u ++ rest) t.heap) A) 0 0 A := by
  refine Met.ofW (cc := b_R_circle) (maxL := 18) (ret := (some .int)) (by decide) rfl ?_
  intro p e s m args below meth c s₁ B hml hv0
  obtain ⟨rfl, hP, hK⟩ := hv0
  have hx := B.exec
  have hb := B.bytes
  have hr := B.returns
  have hts := atoms_spec (ws := (Cond.code y_R_circle b_R_circle 18 (some .int) :: ec_tbl)) B.pre
  have htb : ∀ w ∈ ec_tbl, w.before _ s = true := fun w h => hts w (List.mem_cons_of_mem _ h)
  clear hts
  have hown : s.vm.findClass "ExactMeshModel" = some m.cls := findClass_of_methodNamed B.named
  have hlocks := B.notSynchronized
  have hl := lv_entry ([.ref (a 0), .int (nI i), .int (nI j), .int (nI k), .int (nI i4)]) (n := 18) (Nat.le_of_ble_eq_true rfl)
  rw [lg_entry_eq]
  generalize (lg_sl ([.ref (a 0), .int (nI i), .int (nI j), .int (nI k), .int (nI i4)]) ++ List.replicate (18 - (lg_sl ([.ref (a 0), .int (nI i), .int (nI j), .int (nI k), .int (nI i4)])).length) Slot.unset).toArray = ls at hl ⊢
  replace hl : lv_has ls 18 [(0, .ref (a 0)), (1, .int (nI i)), (2, .int (nI j)), (3, .int (nI k)), (4, .int (nI i4))] := hl
  refine ec_start (fun H locs hH hlocs => ?_)
  replace hP : va_P (dC, dI) vwCl (wR a cI cZ cJ rn rx ry rl rf rt rh gx gy rc w1 w2 w3 rg rk kc kf kp ++ rest) H := by rw [hH]; exact hP
  have hS : va_S A s.heap H locs := by rw [hH, hlocs]; exact va_S.rf
  clear hH hlocs
  refine lv_aload_n hx hb d_R_circle_0 rfl (lv_at hl 0 rfl) ?_
  refine va_get (D := (dC, dI)) (ci := 5) (v := .ref (a 1)) (C := R_R) (T := T_R) (N := 18) hx hb htb in_R hown hK hP 0 rfl rfl 1 (by decide) (htb _ wd_450) (fun _ h9 => h9) rfl d_R_circle_1 ?_
  refine lv_iload_n hx hb d_R_circle_4 rfl (lv_at hl 1 rfl) ?_
  refine ec_iald (f := rx) (i := i) hx hb hK hP 1 0 rfl rfl (by omega) (by decide) d_R_circle_5 ?_
  refine lv_aload_n hx hb d_R_circle_6 rfl (lv_at hl 0 rfl) ?_
  refine va_get (D := (dC, dI)) (ci := 5) (v := .ref (a 1)) (C := R_R) (T := T_R) (N := 18) hx hb htb in_R hown hK hP 0 rfl rfl 1 (by decide) (htb _ wd_450) (fun _ h9 => h9) rfl d_R_circle_7 ?_
  refine lv_iload hx hb d_R_circle_10 (lv_at hl 4 rfl) ?_
  refine ec_iald (f := rx) (i := i4) hx hb hK hP 1 0 rfl rfl (by omega) (by decide) d_R_circle_12 ?_
  refine lv_isub hx hb d_R_circle_13 ?_
  refine lv_i2l hx hb d_R_circle_14 rfl ?_
  refine lv_topl (fun v1 e_v1 => ?_)
  refine lv_lstore hx hb d_R_circle_15 hl (by decide) rfl (fun ls hl => ?_)
  replace hl : lv_has ls 18 [(5, .long v1), (0, .ref (a 0)), (1, .int (nI i)), (2, .int (nI j)), (3, .int (nI k)), (4, .int (nI i4))] := hl
  refine lv_aload_n hx hb d_R_circle_17 rfl (lv_at hl 1 rfl) ?_
  refine va_get (D := (dC, dI)) (ci := 5) (v := .ref (a 2)) (C := R_R) (T := T_R) (N := 18) hx hb htb in_R hown hK hP 0 rfl rfl 2 (by decide) (htb _ wd_451) (fun _ h9 => h9) rfl d_R_circle_18 ?_
  refine lv_iload_n hx hb d_R_circle_21 rfl (lv_at hl 2 rfl) ?_
  refine ec_iald (f := ry) (i := i) hx hb hK hP 2 0 rfl rfl (by omega) (by decide) d_R_circle_22 ?_
  refine lv_aload_n hx hb d_R_circle_23 rfl (lv_at hl 1 rfl) ?_
  refine va_get (D := (dC, dI)) (ci := 5) (v := .ref (a 2)) (C := R_R) (T := T_R) (N := 18) hx hb htb in_R hown hK hP 0 rfl rfl 2 (by decide) (htb _ wd_451) (fun _ h9 => h9) rfl d_R_circle_24 ?_
  refine lv_iload hx hb d_R_circle_27 (lv_at hl 5 rfl) ?_
  refine ec_iald (f := ry) (i := i4) hx hb hK hP 2 0 rfl rfl (by omega) (by decide) d_R_circle_29 ?_
  refine lv_isub hx hb d_R_circle_30 ?_
  refine lv_i2l hx hb d_R_circle_31 rfl ?_
  refine lv_topl (fun v2 e_v2 => ?_)
  refine lv_lstore hx hb d_R_circle_32 hl (by decide) rfl (fun ls hl => ?_)
  replace hl : lv_has ls 18 [(7, .long v2), (5, .long v1), (0, .ref (a 0)), (1, .int (nI i)), (2, .int (nI j)), (3, .int (nI k)), (4, .int (nI i4))] := hl
  refine lv_aload_n hx hb d_R_circle_34 rfl (lv_at hl 2 rfl) ?_
  refine va_get (D := (dC, dI)) (ci := 5) (v := .ref (a 1)) (C := R_R) (T := T_R) (N := 18) hx hb htb in_R hown hK hP 0 rfl rfl 1 (by decide) (htb _ wd_450) (fun _ h9 => h9) rfl d_R_circle_35 ?_
  refine lv_iload_n hx hb d_R_circle_38 rfl (lv_at hl 4 rfl) ?_
  refine ec_iald (f := rx) (i := j) hx hb hK hP 1 0 rfl rfl (by omega) (by decide) d_R_circle_39 ?_
  refine lv_aload_n hx hb d_R_circle_40 rfl (lv_at hl 2 rfl) ?_
  refine va_get (D := (dC, dI)) (ci := 5) (v := .ref (a 1)) (C := R_R) (T := T_R) (N := 18) hx hb htb in_R hown hK hP 0 rfl rfl 1 (by decide) (htb _ wd_450) (fun _ h9 => h9) rfl d_R_circle_41 ?_
  refine lv_iload hx hb d_R_circle_44 (lv_at hl 6 rfl) ?_
  refine ec_iald (f := rx) (i := i4) hx hb hK hP 1 0 rfl rfl (by omega) (by decide) d_R_circle_46 ?_
  refine lv_isub hx hb d_R_circle_47 ?_
  refine lv_i2l hx hb d_R_circle_48 rfl ?_
  refine lv_topl (fun v3 e_v3 => ?_)
  refine lv_lstore hx hb d_R_circle_49 hl (by decide) rfl (fun ls hl => ?_)
  replace hl : lv_has ls 18 [(9, .long v3), (7, .long v2), (5, .long v1), (0, .ref (a 0)), (1, .int (nI i)), (2, .int (nI j)), (3, .int (nI k)), (4, .int (nI i4))] := hl
  refine lv_aload_n hx hb d_R_circle_51 rfl (lv_at hl 3 rfl) ?_
  refine va_get (D := (dC, dI)) (ci := 5) (v := .ref (a 2)) (C := R_R) (T := T_R) (N := 18) hx hb htb in_R hown hK hP 0 rfl rfl 2 (by decide) (htb _ wd_451) (fun _ h9 => h9) rfl d_R_circle_52 ?_
  refine lv_iload_n hx hb d_R_circle_55 rfl (lv_at hl 5 rfl) ?_
  refine ec_iald (f := ry) (i := j) hx hb hK hP 2 0 rfl rfl (by omega) (by decide) d_R_circle_56 ?_
  refine lv_aload_n hx hb d_R_circle_57 rfl (lv_at hl 3 rfl) ?_
  refine va_get (D := (dC, dI)) (ci := 5) (v := .ref (a 2)) (C := R_R) (T := T_R) (N := 18) hx hb htb in_R hown hK hP 0 rfl rfl 2 (by decide) (htb _ wd_451) (fun _ h9 => h9) rfl d_R_circle_58 ?_
  refine lv_iload hx hb d_R_circle_61 (lv_at hl 7 rfl) ?_
  refine ec_iald (f := ry) (i := i4) hx hb hK hP 2 0 rfl rfl (by omega) (by decide) d_R_circle_63 ?_
  refine lv_isub hx hb d_R_circle_64 ?_
  refine lv_i2l hx hb d_R_circle_65 rfl ?_
  refine lv_topl (fun v4 e_v4 => ?_)
  refine lv_lstore hx hb d_R_circle_66 hl (by decide) rfl (fun ls hl => ?_)
  replace hl : lv_has ls 18 [(11, .long v4), (9, .long v3), (7, .long v2), (5, .long v1), (0, .ref (a 0)), (1, .int (nI i)), (2, .int (nI j)), (3, .int (nI k)), (4, .int (nI i4))] := hl
  refine lv_aload_n hx hb d_R_circle_68 rfl (lv_at hl 4 rfl) ?_
  refine va_get (D := (dC, dI)) (ci := 5) (v := .ref (a 1)) (C := R_R) (T := T_R) (N := 18) hx hb htb in_R hown hK hP 0 rfl rfl 1 (by decide) (htb _ wd_450) (fun _ h9 => h9) rfl d_R_circle_69 ?_
  refine lv_iload_n hx hb d_R_circle_72 rfl (lv_at hl 7 rfl) ?_
  refine ec_iald (f := rx) (i := k) hx hb hK hP 1 0 rfl rfl (by omega) (by decide) d_R_circle_73 ?_
  refine lv_aload_n hx hb d_R_circle_74 rfl (lv_at hl 4 rfl) ?_
  refine va_get (D := (dC, dI)) (ci := 5) (v := .ref (a 1)) (C := R_R) (T := T_R) (N := 18) hx hb htb in_R hown hK hP 0 rfl rfl 1 (by decide) (htb _ wd_450) (fun _ h9 => h9) rfl d_R_circle_75 ?_
  refine lv_iload hx hb d_R_circle_78 (lv_at hl 8 rfl) ?_
  refine ec_iald (f := rx) (i := i4) hx hb hK hP 1 0 rfl rfl (by omega) (by decide) d_R_circle_80 ?_
  refine lv_isub hx hb d_R_circle_81 ?_
  refine lv_i2l hx hb d_R_circle_82 rfl ?_
  refine lv_topl (fun v5 e_v5 => ?_)
  refine lv_lstore hx hb d_R_circle_83 hl (by decide) rfl (fun ls hl => ?_)
  replace hl : lv_has ls 18 [(13, .long v5), (11, .long v4), (9, .long v3), (7, .long v2), (5, .long v1), (0, .ref (a 0)), (1, .int (nI i)), (2, .int (nI j)), (3, .int (nI k)), (4, .int (nI i4))] := hl
  refine lv_aload_n hx hb d_R_circle_85 rfl (lv_at hl 5 rfl) ?_
  refine va_get (D := (dC, dI)) (ci := 5) (v := .ref (a 2)) (C := R_R) (T := T_R) (N := 18) hx hb htb in_R hown hK hP 0 rfl rfl 2 (by decide) (htb _ wd_451) (fun _ h9 => h9) rfl d_R_circle_86 ?_
  refine lv_iload_n hx hb d_R_circle_89 rfl (lv_at hl 8 rfl) ?_
  refine ec_iald (f := ry) (i := k) hx hb hK hP 2 0 rfl rfl (by omega) (by decide) d_R_circle_90 ?_
  refine lv_aload_n hx hb d_R_circle_91 rfl (lv_at hl 5 rfl) ?_
  refine va_get (D := (dC, dI)) (ci := 5) (v := .ref (a 2)) (C := R_R) (T := T_R) (N := 18) hx hb htb in_R hown hK hP 0 rfl rfl 2 (by decide) (htb _ wd_451) (fun _ h9 => h9) rfl d_R_circle_92 ?_
  refine lv_iload hx hb d_R_circle_95 (lv_at hl 9 rfl) ?_
  refine ec_iald (f := ry) (i := i4) hx hb hK hP 2 0 rfl rfl (by omega) (by decide) d_R_circle_97 ?_
  refine lv_isub hx hb d_R_circle_98 ?_
  refine lv_i2l hx hb d_R_circle_99 rfl ?_
  refine lv_topl (fun v6 e_v6 => ?_)
  refine lv_lstore hx hb d_R_circle_100 hl (by decide) rfl (fun ls hl => ?_)
  replace hl : lv_has ls 18 [(15, .long v6), (13, .long v5), (11, .long v4), (9, .long v3), (7, .long v2), (5, .long v1), (0, .ref (a 0)), (1, .int (nI i)), (2, .int (nI j)), (3, .int (nI k)), (4, .int (nI i4))] := hl
  refine lv_iconst (v := nI 0) hx hb d_R_circle_102 (by decide) ?_
  refine lv_istore hx hb d_R_circle_103 hl (by decide) rfl (fun ls hl => ?_)
  replace hl : lv_has ls 18 [(17, .int (nI 0)), (15, .long v6), (13, .long v5), (11, .long v4), (9, .long v3), (7, .long v2), (5, .long v1), (0, .ref (a 0)), (1, .int (nI i)), (2, .int (nI j)), (3, .int (nI k)), (4, .int (nI i4))] := hl
  refine lv_iload hx hb d_R_circle_105 (lv_at hl 0 rfl) ?_
  refine lv_iconst (v := nI 5) hx hb d_R_circle_107 (by decide) ?_
  refine ec_icmp_ge (tgt := 125) hx hb d_R_circle_108 rfl (by omega) (by omega) (fun h108 => ?_) (fun h108 => ?_)
  · exact absurd h108 (by decide)
  · refine lv_aload_n hx hb d_R_circle_111 rfl (lv_at hl 7 rfl) ?_
    refine va_get (D := (dC, dI)) (ci := 5) (v := .ref (a 13)) (C := R_R) (T := T_R) (N := 18) hx hb htb in_R hown hK hP 0 rfl rfl 17 (by decide) (htb _ wd_466) (fun _ h9 => h9) rfl d_R_circle_112 ?_
    refine lv_iload hx hb d_R_circle_115 (lv_at hl 0 rfl) ?_
    refine lv_lconst (v := 0) hx hb d_R_circle_117 (by decide) ?_
    refine ec_last (f := kp) (i := 0) hx hb hK hP hD hS 13 2 rfl rfl (by omega) (by decide) d_R_circle_118 (fun H locs hP hD hS => ?_)
    replace hP : va_P (dC, dI) vwCl (wR a cI cZ cJ rn rx ry rl rf rt rh gx gy rc w1 w2 w3 rg rk kc kf (vp_updL kp 0 0) ++ rest) H := hP
    replace hD : va_D A (wR a cI cZ cJ rn rx ry rl rf rt rh gx gy rc w1 w2 w3 rg rk kc kf (vp_updL kp 0 0) ++ rest) := hD
    refine ec_iinc (k := 0) hx hb d_R_circle_119 hl rfl (by decide) rfl (fun ls hl => ?_)
    replace hl : lv_has ls 18 [(17, .int (nI 1)), (15, .long v6), (13, .long v5), (11, .long v4), (9, .long v3), (7, .long v2), (5, .long v1), (0, .ref (a 0)), (1, .int (nI i)), (2, .int (nI j)), (3, .int (nI k)), (4, .int (nI i4))] := hl
    refine lv_goto (tgt := 105) hx hb d_R_circle_122 rfl ?_
    refine lv_iload hx hb d_R_circle_105 (lv_at hl 0 rfl) ?_
    refine lv_iconst (v := nI 5) hx hb d_R_circle_107 (by decide) ?_
    refine ec_icmp_ge (tgt := 125) hx hb d_R_circle_108 rfl (by omega) (by omega) (fun h108_1 => ?_) (fun h108_1 => ?_)
    · exact absurd h108_1 (by decide)
    · refine lv_aload_n hx hb d_R_circle_111 rfl (lv_at hl 7 rfl) ?_
      refine va_get (D := (dC, dI)) (ci := 5) (v := .ref (a 13)) (C := R_R) (T := T_R) (N := 18) hx hb htb in_R hown hK hP 0 rfl rfl 17 (by decide) (htb _ wd_466) (fun _ h9 => h9) rfl d_R_circle_112 ?_
      refine lv_iload hx hb d_R_circle_115 (lv_at hl 0 rfl) ?_
      refine lv_lconst (v := 0) hx hb d_R_circle_117 (by decide) ?_
      refine ec_last (f := vp_updL kp 0 0) (i := 1) hx hb hK hP hD hS 13 2 rfl rfl (by omega) (by decide) d_R_circle_118 (fun H locs hP hD hS => ?_)
      replace hP : va_P (dC, dI) vwCl (wR a cI cZ cJ rn rx ry rl rf rt rh gx gy rc w1 w2 w3 rg rk kc kf (vp_updL (vp_updL kp 0 0) 1 0) ++ rest) H := hP
      replace hD : va_D A (wR a cI cZ cJ rn rx ry rl rf rt rh gx gy rc w1 w2 w3 rg rk kc kf (vp_updL (vp_updL kp 0 0) 1 0) ++ rest) := hD
      refine ec_iinc (k := 0) hx hb d_R_circle_119 hl rfl (by decide) rfl (fun ls hl => ?_)
      replace hl : lv_has ls 18 [(17, .int (nI 2)), (15, .long v6), (13, .long v5), (11, .long v4), (9, .long v3), (7, .long v2), (5, .long v1), (0, .ref (a 0)), (1, .int (nI i)), (2, .int (nI j)), (3, .int (nI k)), (4, .int (nI i4))] := hl
      refine lv_goto (tgt := 105) hx hb d_R_circle_122 rfl ?_
      refine lv_iload hx hb d_R_circle_105 (lv_at hl 0 rfl) ?_
      refine lv_iconst (v := nI 5) hx hb d_R_circle_107 (by decide) ?_
      refine ec_icmp_ge (tgt := 125) hx hb d_R_circle_108 rfl (by omega) (by omega) (fun h108_2 => ?_) (fun h108_2 => ?_)
      · exact absurd h108_2 (by decide)
      · refine lv_aload_n hx hb d_R_circle_111 rfl (lv_at hl 7 rfl) ?_
        refine va_get (D := (dC, dI)) (ci := 5) (v := .ref (a 13)) (C := R_R) (T := T_R) (N := 18) hx hb htb in_R hown hK hP 0 rfl rfl 17 (by decide) (htb _ wd_466) (fun _ h9 => h9) rfl d_R_circle_112 ?_
        refine lv_iload hx hb d_R_circle_115 (lv_at hl 0 rfl) ?_
        refine lv_lconst (v := 0) hx hb d_R_circle_117 (by decide) ?_
        refine ec_last (f := vp_updL (vp_updL kp 0 0) 1 0) (i := 2) hx hb hK hP hD hS 13 2 rfl rfl (by omega) (by decide) d_R_circle_118 (fun H locs hP hD hS => ?_)
        replace hP : va_P (dC, dI) vwCl (wR a cI cZ cJ rn rx ry rl rf rt rh gx gy rc w1 w2 w3 rg rk kc kf (vp_updL (vp_updL (vp_updL kp 0 0) 1 0) 2 0) ++ rest) H := hP
        replace hD : va_D A (wR a cI cZ cJ rn rx ry rl rf rt rh gx gy rc w1 w2 w3 rg rk kc kf (vp_updL (vp_updL (vp_updL kp 0 0) 1 0) 2 0) ++ rest) := hD
        refine ec_iinc (k := 0) hx hb d_R_circle_119 hl rfl (by decide) rfl (fun ls hl => ?_)
        replace hl : lv_has ls 18 [(17, .int (nI 3)), (15, .long v6), (13, .long v5), (11, .long v4), (9, .long v3), (7, .long v2), (5, .long v1), (0, .ref (a 0)), (1, .int (nI i)), (2, .int (nI j)), (3, .int (nI k)), (4, .int (nI i4))] := hl
        refine lv_goto (tgt := 105) hx hb d_R_circle_122 rfl ?_
        refine lv_iload hx hb d_R_circle_105 (lv_at hl 0 rfl) ?_
        refine lv_iconst (v := nI 5) hx hb d_R_circle_107 (by decide) ?_
        refine ec_icmp_ge (tgt := 125) hx hb d_R_circle_108 rfl (by omega) (by omega) (fun h108_3 => ?_) (fun h108_3 => ?_)
        · exact absurd h108_3 (by decide)
        · refine lv_aload_n hx hb d_R_circle_111 rfl (lv_at hl 7 rfl) ?_
          refine va_get (D := (dC, dI)) (ci := 5) (v := .ref (a 13)) (C := R_R) (T := T_R) (N := 18) hx hb htb in_R hown hK hP 0 rfl rfl 17 (by decide) (htb _ wd_466) (fun _ h9 => h9) rfl d_R_circle_112 ?_
          refine lv_iload hx hb d_R_circle_115 (lv_at hl 0 rfl) ?_
          refine lv_lconst (v := 0) hx hb d_R_circle_117 (by decide) ?_
          refine ec_last (f := vp_updL (vp_updL (vp_updL kp 0 0) 1 0) 2 0) (i := 3) hx hb hK hP hD hS 13 2 rfl rfl (by omega) (by decide) d_R_circle_118 (fun H locs hP hD hS => ?_)
          replace hP : va_P (dC, dI) vwCl (wR a cI cZ cJ rn rx ry rl rf rt rh gx gy rc w1 w2 w3 rg rk kc kf (vp_updL (vp_updL (vp_updL (vp_updL kp 0 0) 1 0) 2 0) 3 0) ++ rest) H := hP
          replace hD : va_D A (wR a cI cZ cJ rn rx ry rl rf rt rh gx gy rc w1 w2 w3 rg rk kc kf (vp_updL (vp_updL (vp_updL (vp_updL kp 0 0) 1 0) 2 0) 3 0) ++ rest) := hD
          refine ec_iinc (k := 0) hx hb d_R_circle_119 hl rfl (by decide) rfl (fun ls hl => ?_)
          replace hl : lv_has ls 18 [(17, .int (nI 4)), (15, .long v6), (13, .long v5), (11, .long v4), (9, .long v3), (7, .long v2), (5, .long v1), (0, .ref (a 0)), (1, .int (nI i)), (2, .int (nI j)), (3, .int (nI k)), (4, .int (nI i4))] := hl
          refine lv_goto (tgt := 105) hx hb d_R_circle_122 rfl ?_
          refine lv_iload hx hb d_R_circle_105 (lv_at hl 0 rfl) ?_
          refine lv_iconst (v := nI 5) hx hb d_R_circle_107 (by decide) ?_
          refine ec_icmp_ge (tgt := 125) hx hb d_R_circle_108 rfl (by omega) (by omega) (fun h108_4 => ?_) (fun h108_4 => ?_)
          · exact absurd h108_4 (by decide)
          · refine lv_aload_n hx hb d_R_circle_111 rfl (lv_at hl 7 rfl) ?_
            refine va_get (D := (dC, dI)) (ci := 5) (v := .ref (a 13)) (C := R_R) (T := T_R) (N := 18) hx hb htb in_R hown hK hP 0 rfl rfl 17 (by decide) (htb _ wd_466) (fun _ h9 => h9) rfl d_R_circle_112 ?_
            refine lv_iload hx hb d_R_circle_115 (lv_at hl 0 rfl) ?_
            refine lv_lconst (v := 0) hx hb d_R_circle_117 (by decide) ?_
            refine ec_last (f := vp_updL (vp_updL (vp_updL (vp_updL kp 0 0) 1 0) 2 0) 3 0) (i := 4) hx hb hK hP hD hS 13 2 rfl rfl (by omega) (by decide) d_R_circle_118 (fun H locs hP hD hS => ?_)
            replace hP : va_P (dC, dI) vwCl (wR a cI cZ cJ rn rx ry rl rf rt rh gx gy rc w1 w2 w3 rg rk kc kf (vp_updL (vp_updL (vp_updL (vp_updL (vp_updL kp 0 0) 1 0) 2 0) 3 0) 4 0) ++ rest) H := hP
            replace hD : va_D A (wR a cI cZ cJ rn rx ry rl rf rt rh gx gy rc w1 w2 w3 rg rk kc kf (vp_updL (vp_updL (vp_updL (vp_updL (vp_updL kp 0 0) 1 0) 2 0) 3 0) 4 0) ++ rest) := hD
            refine ec_iinc (k := 0) hx hb d_R_circle_119 hl rfl (by decide) rfl (fun ls hl => ?_)
            replace hl : lv_has ls 18 [(17, .int (nI 5)), (15, .long v6), (13, .long v5), (11, .long v4), (9, .long v3), (7, .long v2), (5, .long v1), (0, .ref (a 0)), (1, .int (nI i)), (2, .int (nI j)), (3, .int (nI k)), (4, .int (nI i4))] := hl
            refine lv_goto (tgt := 105) hx hb d_R_circle_122 rfl ?_
            refine lv_iload hx hb d_R_circle_105 (lv_at hl 0 rfl) ?_
            refine lv_iconst (v := nI 5) hx hb d_R_circle_107 (by decide) ?_
            refine ec_icmp_ge (tgt := 125) hx hb d_R_circle_108 rfl (by omega) (by omega) (fun h108_5 => ?_) (fun h108_5 => ?_)
            · replace hP : va_P (dC, dI) vwCl (wR a cI cZ cJ rn rx ry rl rf rt rh gx gy rc w1 w2 w3 rg rk kc kf (ec_z5 kp) ++ rest) H := hP
              replace hD : va_D A (wR a cI cZ cJ rn rx ry rl rf rt rh gx gy rc w1 w2 w3 rg rk kc kf (ec_z5 kp) ++ rest) := hD
              have h_v1 : v1.toInt = (rx i).toInt - (rx i4).toInt := by rw [e_v1]; exact ec_isubL (gN i hi).1 (gN i4 hi4).1
              have b_v1 := ec_near_sub (gN i hi).1 (gN i4 hi4).1
              have h_v2 : v2.toInt = (ry i).toInt - (ry i4).toInt := by rw [e_v2]; exact ec_isubL (gN i hi).2 (gN i4 hi4).2
              have b_v2 := ec_near_sub (gN i hi).2 (gN i4 hi4).2
              have h_v3 : v3.toInt = (rx j).toInt - (rx i4).toInt := by rw [e_v3]; exact ec_isubL (gN j hj).1 (gN i4 hi4).1
              have b_v3 := ec_near_sub (gN j hj).1 (gN i4 hi4).1
              have h_v4 : v4.toInt = (ry j).toInt - (ry i4).toInt := by rw [e_v4]; exact ec_isubL (gN j hj).2 (gN i4 hi4).2
              have b_v4 := ec_near_sub (gN j hj).2 (gN i4 hi4).2
              have h_v5 : v5.toInt = (rx k).toInt - (rx i4).toInt := by rw [e_v5]; exact ec_isubL (gN k hk).1 (gN i4 hi4).1
              have b_v5 := ec_near_sub (gN k hk).1 (gN i4 hi4).1
              have h_v6 : v6.toInt = (ry k).toInt - (ry i4).toInt := by rw [e_v6]; exact ec_isubL (gN k hk).2 (gN i4 hi4).2
              have b_v6 := ec_near_sub (gN k hk).2 (gN i4 hi4).2
              have s0 := ec_dotQ h_v1 h_v2 b_v1 b_v2
              have m0 := ec_dotM h_v3 h_v6 h_v4 h_v5 b_v3 b_v6 b_v4 b_v5
              have s1 := ec_dotQ h_v3 h_v4 b_v3 b_v4
              have m1 := ec_dotM h_v5 h_v2 h_v6 h_v1 b_v5 b_v2 b_v6 b_v1
              have s2 := ec_dotQ h_v5 h_v6 b_v5 b_v6
              have m2 := ec_dotM h_v1 h_v4 h_v2 h_v3 b_v1 b_v4 b_v2 b_v3
              refine lv_aload_n hx hb d_R_circle_125 rfl (lv_at hl 7 rfl) ?_
              refine lv_lload hx hb d_R_circle_126 (lv_at hl 6 rfl) ?_
              refine lv_lload hx hb d_R_circle_128 (lv_at hl 6 rfl) ?_
              refine lv_lmul hx hb d_R_circle_130 ?_
              refine lv_lload hx hb d_R_circle_131 (lv_at hl 5 rfl) ?_
              refine lv_lload hx hb d_R_circle_133 (lv_at hl 5 rfl) ?_
              refine lv_lmul hx hb d_R_circle_135 ?_
              refine lv_ladd hx hb d_R_circle_136 ?_
              refine lv_lload hx hb d_R_circle_137 (lv_at hl 4 rfl) ?_
              refine lv_lload hx hb d_R_circle_139 (lv_at hl 1 rfl) ?_
              refine lv_lmul hx hb d_R_circle_141 ?_
              refine lv_lload hx hb d_R_circle_142 (lv_at hl 3 rfl) ?_
              refine lv_lload hx hb d_R_circle_144 (lv_at hl 2 rfl) ?_
              refine lv_lmul hx hb d_R_circle_146 ?_
              refine lv_lsub hx hb d_R_circle_147 ?_
              refine ec_vQv (C := "ExactMeshModel") (ci := 5) (q := (R_R, T_R, 18)) (q0 := 0) (As := [.long ((v1 * v1) + (v2 * v2)), .long ((v3 * v6) - (v4 * v5))]) (rest := []) ⟨hx, hb, hml, hown, htb⟩ (c_R_addProduct l dC dI a cI cZ cJ rn rx ry rl rf rt rh gx gy rc w1 w2 w3 rg rk kc kf (ec_z5 kp) rest ((v1 * v1) + (v2 * v2)) ((v3 * v6) - (v4 * v5)) 0 s0.2 m0.2 (by omega) (ec_z5_B kp) A hD) kv_R_addProduct hK hP rfl rfl rfl hS wd_565 ⟨Nat.le_of_ble_eq_true rfl, Nat.le_of_ble_eq_true rfl⟩ ⟨rfl, rfl⟩ rfl hl.1 rfl (Nat.le_of_ble_eq_true rfl) d_R_circle_148 ⟨Nat.zero_le _, Nat.zero_le _⟩ (fun ur148 H locs hr148 hP hS => ?_)
              replace hr148 : ec_AP (ec_z5 kp) ur148 ((v1 * v1) + (v2 * v2)).toInt ((v3 * v6) - (v4 * v5)).toInt ∧ ec_BP ur148 (0 + 3221225472) := hr148
              replace hP : va_P (dC, dI) vwCl (wR a cI cZ cJ rn rx ry rl rf rt rh gx gy rc w1 w2 w3 rg rk kc kf ur148 ++ rest) H := hP
              replace hD : va_D A (wR a cI cZ cJ rn rx ry rl rf rt rh gx gy rc w1 w2 w3 rg rk kc kf ur148 ++ rest) := ec_Dk hD rfl
              refine lv_aload_n hx hb d_R_circle_151 rfl (lv_at hl 7 rfl) ?_
              refine lv_lload hx hb d_R_circle_152 (lv_at hl 4 rfl) ?_
              refine lv_lload hx hb d_R_circle_154 (lv_at hl 4 rfl) ?_
              refine lv_lmul hx hb d_R_circle_156 ?_
              refine lv_lload hx hb d_R_circle_157 (lv_at hl 3 rfl) ?_
              refine lv_lload hx hb d_R_circle_159 (lv_at hl 3 rfl) ?_
              refine lv_lmul hx hb d_R_circle_161 ?_
              refine lv_ladd hx hb d_R_circle_162 ?_
              refine lv_lload hx hb d_R_circle_163 (lv_at hl 2 rfl) ?_
              refine lv_lload hx hb d_R_circle_165 (lv_at hl 5 rfl) ?_
              refine lv_lmul hx hb d_R_circle_167 ?_
              refine lv_lload hx hb d_R_circle_168 (lv_at hl 1 rfl) ?_
              refine lv_lload hx hb d_R_circle_170 (lv_at hl 6 rfl) ?_
              refine lv_lmul hx hb d_R_circle_172 ?_
              refine lv_lsub hx hb d_R_circle_173 ?_
              refine ec_vQv (C := "ExactMeshModel") (ci := 5) (q := (R_R, T_R, 18)) (q0 := 0) (As := [.long ((v3 * v3) + (v4 * v4)), .long ((v5 * v2) - (v6 * v1))]) (rest := []) ⟨hx, hb, hml, hown, htb⟩ (c_R_addProduct l dC dI a cI cZ cJ rn rx ry rl rf rt rh gx gy rc w1 w2 w3 rg rk kc kf ur148 rest ((v3 * v3) + (v4 * v4)) ((v5 * v2) - (v6 * v1)) (0 + 3221225472) s1.2 m1.2 (by omega) hr148.2 A hD) kv_R_addProduct hK hP rfl rfl rfl hS wd_565 ⟨Nat.le_of_ble_eq_true rfl, Nat.le_of_ble_eq_true rfl⟩ ⟨rfl, rfl⟩ rfl hl.1 rfl (Nat.le_of_ble_eq_true rfl) d_R_circle_174 ⟨Nat.zero_le _, Nat.zero_le _⟩ (fun ur174 H locs hr174 hP hS => ?_)
              replace hr174 : ec_AP ur148 ur174 ((v3 * v3) + (v4 * v4)).toInt ((v5 * v2) - (v6 * v1)).toInt ∧ ec_BP ur174 ((0 + 3221225472) + 3221225472) := hr174
              replace hP : va_P (dC, dI) vwCl (wR a cI cZ cJ rn rx ry rl rf rt rh gx gy rc w1 w2 w3 rg rk kc kf ur174 ++ rest) H := hP
              replace hD : va_D A (wR a cI cZ cJ rn rx ry rl rf rt rh gx gy rc w1 w2 w3 rg rk kc kf ur174 ++ rest) := ec_Dk hD rfl
              refine lv_aload_n hx hb d_R_circle_177 rfl (lv_at hl 7 rfl) ?_
              refine lv_lload hx hb d_R_circle_178 (lv_at hl 2 rfl) ?_
              refine lv_lload hx hb d_R_circle_180 (lv_at hl 2 rfl) ?_
              refine lv_lmul hx hb d_R_circle_182 ?_
              refine lv_lload hx hb d_R_circle_183 (lv_at hl 1 rfl) ?_
              refine lv_lload hx hb d_R_circle_185 (lv_at hl 1 rfl) ?_
              refine lv_lmul hx hb d_R_circle_187 ?_
              refine lv_ladd hx hb d_R_circle_188 ?_
              refine lv_lload hx hb d_R_circle_189 (lv_at hl 6 rfl) ?_
              refine lv_lload hx hb d_R_circle_191 (lv_at hl 3 rfl) ?_
              refine lv_lmul hx hb d_R_circle_193 ?_
              refine lv_lload hx hb d_R_circle_194 (lv_at hl 5 rfl) ?_
              refine lv_lload hx hb d_R_circle_196 (lv_at hl 4 rfl) ?_
              refine lv_lmul hx hb d_R_circle_198 ?_
              refine lv_lsub hx hb d_R_circle_199 ?_
              refine ec_vQv (C := "ExactMeshModel") (ci := 5) (q := (R_R, T_R, 18)) (q0 := 0) (As := [.long ((v5 * v5) + (v6 * v6)), .long ((v1 * v4) - (v2 * v3))]) (rest := []) ⟨hx, hb, hml, hown, htb⟩ (c_R_addProduct l dC dI a cI cZ cJ rn rx ry rl rf rt rh gx gy rc w1 w2 w3 rg rk kc kf ur174 rest ((v5 * v5) + (v6 * v6)) ((v1 * v4) - (v2 * v3)) (0 + 3221225472 + 3221225472) s2.2 m2.2 (by omega) hr174.2 A hD) kv_R_addProduct hK hP rfl rfl rfl hS wd_565 ⟨Nat.le_of_ble_eq_true rfl, Nat.le_of_ble_eq_true rfl⟩ ⟨rfl, rfl⟩ rfl hl.1 rfl (Nat.le_of_ble_eq_true rfl) d_R_circle_200 ⟨Nat.zero_le _, Nat.zero_le _⟩ (fun ur200 H locs hr200 hP hS => ?_)
              replace hr200 : ec_AP ur174 ur200 ((v5 * v5) + (v6 * v6)).toInt ((v1 * v4) - (v2 * v3)).toInt ∧ ec_BP ur200 ((0 + 3221225472 + 3221225472) + 3221225472) := hr200
              replace hP : va_P (dC, dI) vwCl (wR a cI cZ cJ rn rx ry rl rf rt rh gx gy rc w1 w2 w3 rg rk kc kf ur200 ++ rest) H := hP
              replace hD : va_D A (wR a cI cZ cJ rn rx ry rl rf rt rh gx gy rc w1 w2 w3 rg rk kc kf ur200 ++ rest) := ec_Dk hD rfl
              refine lv_aload_n hx hb d_R_circle_203 rfl (lv_at hl 7 rfl) ?_
              refine ec_vQi (C := "ExactMeshModel") (ci := 5) (q := (R_R, T_R, 18)) (q0 := 0) (As := []) (rest := []) ⟨hx, hb, hml, hown, htb⟩ (c_R_signOfSum l dC dI a cI cZ cJ rn rx ry rl rf rt rh gx gy rc w1 w2 w3 rg rk kc kf ur200 rest (0 + 3221225472 + 3221225472 + 3221225472) (by omega) hr200.2 A hD) kv_R_signOfSum hK hP rfl rfl rfl hS wd_570 ⟨Nat.le_of_ble_eq_true rfl, Nat.le_of_ble_eq_true rfl⟩ ⟨rfl, rfl⟩ rfl hl.1 rfl (Nat.le_of_ble_eq_true rfl) d_R_circle_204 ⟨Nat.zero_le _, Nat.zero_le _⟩ (fun r204 ur204 H locs hr204 hP hS => ?_)
              replace hr204 : r204 = ec_sgn (ec_S5 ur200) := hr204
              replace hP : va_P (dC, dI) vwCl (wR a cI cZ cJ rn rx ry rl rf rt rh gx gy rc w1 w2 w3 rg rk kc kf ur204 ++ rest) H := hP
              replace hD : va_D A (wR a cI cZ cJ rn rx ry rl rf rt rh gx gy rc w1 w2 w3 rg rk kc kf ur204 ++ rest) := ec_Dk hD rfl
              subst hr204
              exact W.iret hx hb hr (fun tS ht hW => ⟨⟨_, ur204, rfl, (by rw [ec_AP_S hr200.1, ec_AP_S hr174.1, ec_AP_S hr148.1, ec_z5_S, s0.1, m0.1, s1.1, m1.1, s2.1, m2.1, Int.zero_add, ec_circR]), by show va_P _ _ _ tS.heap; rw [ht]; exact hP⟩, hS.F ht⟩) hS.2.2 d_R_circle_207
            · exact absurd h108_5 (by decide)
