set_option maxRecDepth 100000 in
set_option maxHeartbeats 4000000 in
theorem c_R_inCircle (l : Launch) (dC : Nat → ClassId) (dI : Nat → Nat → Nat) (a : Nat → Nat) (cI cZ cJ : ClassId) (rn : Nat) (rx : Nat → Int32) (ry : Nat → Int32) (rl : Nat) (rf : Nat → Nat) (rt : Nat → Nat) (rh : Nat) (gx : Nat → Int32) (gy : Nat → Int32) (rc : Nat) (w1 : Nat → Nat) (w2 : Nat → Nat) (w3 : Nat → Nat) (rg : Nat → Prop) (rk : Nat) (kc : Nat → Nat) (kf : Nat → Prop) (kp : Nat → Int64) (rest : va_W) (v : Int32) (w : Int32) (z : Int32) (d : Int32) (g12 : rn ≤ 12) (gN : ∀ i, i < rn → ec_near (rx i) ∧ ec_near (ry i)) (A : Nat → Prop) (hD : va_D A (wR a cI cZ cJ rn rx ry rl rf rt rh gx gy rc w1 w2 w3 rg rk kc kf kp ++ rest)) : Met l y_R_inCircle (Cond.code y_R_inCircle b_R_inCircle 6 (some .int) :: ec_tbl) ({ frames := 3, cells := 0, slots := 0, locals := 77 }) (va_Pc [.ref (a 0), .int v, .int w, .int z, .int d] (fun U => va_P (dC, dI) vwCl (wR a cI cZ cJ rn rx ry rl rf rt rh gx gy rc w1 w2 w3 rg rk kc kf kp ++ rest) U.heap ∧ va_K (dC, dI) vwCl (ec_tys cI cZ cJ) U)) (va_Qi (fun (r : Int32) (u : Nat → Int64) => r = ec_cirF rn rx ry v w z d) (fun u t => va_P (dC, dI) vwCl (wR a cI cZ cJ rn rx ry rl rf rt rh gx gy rc w1 w2 w3 rg rk kc kf u ++ rest) t.heap) A) 0 0 A := by
  refine Met.ofW (cc := b_R_inCircle) (maxL := 6) (ret := (some .int)) (by decide) rfl ?_
  intro p e s m args below meth c s₁ B hml hv0
  obtain ⟨rfl, hP, hK⟩ := hv0
  have hx := B.exec
  have hb := B.bytes
  have hr := B.returns
  have hts := atoms_spec (ws := (Cond.code y_R_inCircle b_R_inCircle 6 (some .int) :: ec_tbl)) B.pre
  have htb : ∀ w ∈ ec_tbl, w.before _ s = true := fun w h => hts w (List.mem_cons_of_mem _ h)
  clear hts
  have hown : s.vm.findClass "ExactMeshModel" = some m.cls := findClass_of_methodNamed B.named
  have hlocks := B.notSynchronized
  have hl := lv_entry ([.ref (a 0), .int v, .int w, .int z, .int d]) (n := 6) (Nat.le_of_ble_eq_true rfl)
  rw [lg_entry_eq]
  generalize (lg_sl ([.ref (a 0), .int v, .int w, .int z, .int d]) ++ List.replicate (6 - (lg_sl ([.ref (a 0), .int v, .int w, .int z, .int d])).length) Slot.unset).toArray = ls at hl ⊢
  replace hl : lv_has ls 6 [(0, .ref (a 0)), (1, .int v), (2, .int w), (3, .int z), (4, .int d)] := hl
  refine ec_start (fun H locs hH hlocs => ?_)
  replace hP : va_P (dC, dI) vwCl (wR a cI cZ cJ rn rx ry rl rf rt rh gx gy rc w1 w2 w3 rg rk kc kf kp ++ rest) H := by rw [hH]; exact hP
  have hS : va_S A s.heap H locs := by rw [hH, hlocs]; exact va_S.rf
  clear hH hlocs
  refine lv_aload_n hx hb d_R_inCircle_0 rfl (lv_at hl 0 rfl) ?_
  refine lv_iload_n hx hb d_R_inCircle_1 rfl (lv_at hl 1 rfl) ?_
  refine lv_iload_n hx hb d_R_inCircle_2 rfl (lv_at hl 2 rfl) ?_
  refine lv_iload_n hx hb d_R_inCircle_3 rfl (lv_at hl 3 rfl) ?_
  refine ec_vSi (C := "ExactMeshModel") (ci := 5) (q := (R_R, T_R, 18)) (q0 := 0) (As := [.int v, .int w, .int z]) (rest := []) ⟨hx, hb, hml, hown, htb⟩ (c_R_turn l dC dI a cI cZ cJ rn rx ry rl rf rt rh gx gy rc w1 w2 w3 rg rk kc kf kp rest v w z g12 gN) kv_R_turn hK hP rfl rfl rfl wd_560 ⟨Nat.le_of_ble_eq_true rfl, Nat.le_of_ble_eq_true rfl⟩ ⟨rfl, rfl⟩ rfl hl.1 rfl (Nat.le_of_ble_eq_true rfl) d_R_inCircle_4 ⟨Nat.zero_le _, Nat.zero_le _⟩ (fun r4 hr4 => ?_)
  replace hr4 : r4 = ec_turF rn rx ry v w z := hr4
  subst hr4
  refine lv_topi (fun v1 e_v1 => ?_)
  refine lv_istore hx hb d_R_inCircle_7 hl (by decide) rfl (fun ls hl => ?_)
  replace hl : lv_has ls 6 [(5, .int v1), (0, .ref (a 0)), (1, .int v), (2, .int w), (3, .int z), (4, .int d)] := hl
  refine lv_iload hx hb d_R_inCircle_9 (lv_at hl 0 rfl) ?_
  refine lv_iconst (v := nI 2) hx hb d_R_inCircle_11 (by decide) ?_
  refine lv_icmp_eq (tgt := 29) hx hb d_R_inCircle_12 rfl (fun h12 => ?_) (fun h12 => ?_)
  · refine lv_iconst (v := nI 2) hx hb d_R_inCircle_29 (by decide) ?_
    exact W.iret hx hb hr (fun tS ht hW => ⟨⟨_, kp, rfl, (ec_cir_2 (by rw [← e_v1]; exact h12)), by show va_P _ _ _ tS.heap; rw [ht]; exact hP⟩, hS.F ht⟩) hS.2.2 d_R_inCircle_30
  · refine lv_iload hx hb d_R_inCircle_15 (lv_at hl 0 rfl) ?_
    refine lv_if_eq (tgt := 29) hx hb d_R_inCircle_17 rfl (fun h17 => ?_) (fun h17 => ?_)
    · refine lv_iconst (v := nI 2) hx hb d_R_inCircle_29 (by decide) ?_
      exact W.iret hx hb hr (fun tS ht hW => ⟨⟨_, kp, rfl, (ec_cir_0 (by rw [← e_v1]; exact h17)), by show va_P _ _ _ tS.heap; rw [ht]; exact hP⟩, hS.F ht⟩) hS.2.2 d_R_inCircle_30
    · refine lv_aload_n hx hb d_R_inCircle_20 rfl (lv_at hl 1 rfl) ?_
      refine lv_iload hx hb d_R_inCircle_21 (lv_at hl 5 rfl) ?_
      refine ec_vSi (C := "ExactMeshModel") (ci := 5) (q := (R_R, T_R, 18)) (q0 := 0) (As := [.int d]) (rest := []) ⟨hx, hb, hml, hown, htb⟩ (c_R_isPoint l dC dI a cI cZ cJ rn rx ry rl rf rt rh gx gy rc w1 w2 w3 rg rk kc kf kp rest d g12) kv_R_isPoint hK hP rfl rfl rfl wd_529 ⟨Nat.le_of_ble_eq_true rfl, Nat.le_of_ble_eq_true rfl⟩ ⟨rfl, rfl⟩ rfl hl.1 rfl (Nat.le_of_ble_eq_true rfl) d_R_inCircle_23 ⟨Nat.zero_le _, Nat.zero_le _⟩ (fun r23 hr23 => ?_)
      replace hr23 : ec_isB r23 (0 ≤ d.toInt ∧ d.toInt < rn) := hr23
      refine ec_if_neB (tgt := 31) hx hb hr23 d_R_inCircle_26 rfl (fun h26 => ?_) (fun h26 => ?_)
      · have hh := ec_tur_has (by rw [← e_v1]; exact h12)
        obtain ⟨i, hi, hi2, rfl⟩ := ec_ofI hh.1
        obtain ⟨j, hj, hj2, rfl⟩ := ec_ofI hh.2.1
        obtain ⟨k, hk, hk2, rfl⟩ := ec_ofI hh.2.2
        obtain ⟨i4, hi4, hi42, rfl⟩ := ec_ofI h26
        refine lv_iload hx hb d_R_inCircle_31 (lv_at hl 0 rfl) ?_
        refine lv_if_le (tgt := 48) hx hb d_R_inCircle_33 rfl (fun h33 => ?_) (fun h33 => ?_)
        · refine lv_aload_n hx hb d_R_inCircle_48 rfl (lv_at hl 1 rfl) ?_
          refine lv_iload_n hx hb d_R_inCircle_49 rfl (lv_at hl 2 rfl) ?_
          refine lv_iload_n hx hb d_R_inCircle_50 rfl (lv_at hl 4 rfl) ?_
          refine lv_iload_n hx hb d_R_inCircle_51 rfl (lv_at hl 3 rfl) ?_
          refine lv_iload hx hb d_R_inCircle_52 (lv_at hl 5 rfl) ?_
          refine ec_vQi (C := "ExactMeshModel") (ci := 5) (q := (R_R, T_R, 18)) (q0 := 0) (As := [.int (nI i), .int (nI k), .int (nI j), .int (nI i4)]) (rest := []) ⟨hx, hb, hml, hown, htb⟩ (c_R_circle l dC dI a cI cZ cJ rn rx ry rl rf rt rh gx gy rc w1 w2 w3 rg rk kc kf kp rest i k j i4 g12 gN (by omega) (by omega) (by omega) (by omega) A hD) kv_R_circle hK hP rfl rfl rfl hS wd_561 ⟨Nat.le_of_ble_eq_true rfl, Nat.le_of_ble_eq_true rfl⟩ ⟨rfl, rfl⟩ rfl hl.1 rfl (Nat.le_of_ble_eq_true rfl) d_R_inCircle_54 ⟨Nat.zero_le _, Nat.zero_le _⟩ (fun r54 ur54 H locs hr54 hP hS => ?_)
          replace hr54 : r54 = ec_sgn (ec_circ rx ry i k j i4) := hr54
          replace hP : va_P (dC, dI) vwCl (wR a cI cZ cJ rn rx ry rl rf rt rh gx gy rc w1 w2 w3 rg rk kc kf ur54 ++ rest) H := hP
          replace hD : va_D A (wR a cI cZ cJ rn rx ry rl rf rt rh gx gy rc w1 w2 w3 rg rk kc kf ur54 ++ rest) := ec_Dk hD rfl
          subst hr54
          exact W.iret hx hb hr (fun tS ht hW => ⟨⟨_, ur54, rfl, (ec_cir_n g12 hi hj hk hi4 (by rw [← e_v1]; exact h33) (by rw [← e_v1]; exact h17)), by show va_P _ _ _ tS.heap; rw [ht]; exact hP⟩, hS.F ht⟩) hS.2.2 d_R_inCircle_57
        · refine lv_aload_n hx hb d_R_inCircle_36 rfl (lv_at hl 1 rfl) ?_
          refine lv_iload_n hx hb d_R_inCircle_37 rfl (lv_at hl 2 rfl) ?_
          refine lv_iload_n hx hb d_R_inCircle_38 rfl (lv_at hl 3 rfl) ?_
          refine lv_iload_n hx hb d_R_inCircle_39 rfl (lv_at hl 4 rfl) ?_
          refine lv_iload hx hb d_R_inCircle_40 (lv_at hl 5 rfl) ?_
          refine ec_vQi (C := "ExactMeshModel") (ci := 5) (q := (R_R, T_R, 18)) (q0 := 0) (As := [.int (nI i), .int (nI j), .int (nI k), .int (nI i4)]) (rest := []) ⟨hx, hb, hml, hown, htb⟩ (c_R_circle l dC dI a cI cZ cJ rn rx ry rl rf rt rh gx gy rc w1 w2 w3 rg rk kc kf kp rest i j k i4 g12 gN (by omega) (by omega) (by omega) (by omega) A hD) kv_R_circle hK hP rfl rfl rfl hS wd_561 ⟨Nat.le_of_ble_eq_true rfl, Nat.le_of_ble_eq_true rfl⟩ ⟨rfl, rfl⟩ rfl hl.1 rfl (Nat.le_of_ble_eq_true rfl) d_R_inCircle_42 ⟨Nat.zero_le _, Nat.zero_le _⟩ (fun r42 ur42 H locs hr42 hP hS => ?_)
          replace hr42 : r42 = ec_sgn (ec_circ rx ry i j k i4) := hr42
          replace hP : va_P (dC, dI) vwCl (wR a cI cZ cJ rn rx ry rl rf rt rh gx gy rc w1 w2 w3 rg rk kc kf ur42 ++ rest) H := hP
          replace hD : va_D A (wR a cI cZ cJ rn rx ry rl rf rt rh gx gy rc w1 w2 w3 rg rk kc kf ur42 ++ rest) := ec_Dk hD rfl
          subst hr42
          refine lv_goto (tgt := 57) hx hb d_R_inCircle_45 rfl ?_
          exact W.iret hx hb hr (fun tS ht hW => ⟨⟨_, ur42, rfl, (ec_cir_p g12 hi hj hk hi4 (by rw [← e_v1]; exact h33)), by show va_P _ _ _ tS.heap; rw [ht]; exact hP⟩, hS.F ht⟩) hS.2.2 d_R_inCircle_57
      · refine lv_iconst (v := nI 2) hx hb d_R_inCircle_29 (by decide) ?_
        exact W.iret hx hb hr (fun tS ht hW => ⟨⟨_, kp, rfl, (ec_cirF_no (fun q => h26 q.2.2.2)), by show va_P _ _ _ tS.heap; rw [ht]; exact hP⟩, hS.F ht⟩) hS.2.2 d_R_inCircle_30

set_option maxRecDepth 100000 in
set_option maxHeartbeats 4000000 in
theorem c_R_third (l : Launch) (dC : Nat → ClassId) (dI : Nat → Nat → Nat) (a : Nat → Nat) (cI cZ cJ : ClassId) (rn : Nat) (rx : Nat → Int32) (ry : Nat → Int32) (rl : Nat) (rf : Nat → Nat) (rt : Nat → Nat) (rh : Nat) (gx : Nat → Int32) (gy : Nat → Int32) (rc : Nat) (w1 : Nat → Nat) (w2 : Nat → Nat) (w3 : Nat → Nat) (rg : Nat → Prop) (rk : Nat) (kc : Nat → Nat) (kf : Nat → Prop) (kp : Nat → Int64) (rest : va_W) (i : Nat) (j : Nat) (glr : Nat → Nat) (gS : ec_SI rn rx ry rl rf rt glr) (hi : i < rn) (hj : j < rn) (hij : i ≠ j) (A : Nat → Prop) (hD : va_D A (wR a cI cZ cJ rn rx ry rl rf rt rh gx gy rc w1 w2 w3 rg rk kc kf kp ++ rest)) : Met l y_R_third (Cond.code y_R_third b_R_third 10 (some .int) :: ec_tbl) ({ frames := 5, cells := 0, slots := 0, locals := 126 }) (va_Pc [.ref (a 0), .int (nI i), .int (nI j)] (fun U => va_P (dC, dI) vwCl (wR a cI cZ cJ rn rx ry rl rf rt rh gx gy rc w1 w2 w3 rg rk kc kf kp ++ rest) U.heap ∧ va_K (dC, dI) vwCl (ec_tys cI cZ cJ) U)) (va_Qi (fun (r : Int32) (u : Nat → Int64) => ∃ o, r = ec_oi o ∧ ec_thd rn (ec_P rx ry) (ec_E rl rf rt) i j o) (fun u t => va_P (dC, dI) vwCl (wR a cI cZ cJ rn rx ry rl rf rt rh gx gy rc w1 w2 w3 rg rk kc kf u ++ rest) t.heap) A) 0 0 A := by
  refine Met.ofW (cc := b_R_third) (maxL := 10) (ret := (some .int)) (by decide) rfl ?_
  intro p e s m args below meth c s₁ B hml hv0
  obtain ⟨rfl, hP, hK⟩ := hv0
  have hx := B.exec
  have hb := B.bytes
  have hr := B.returns
  have hts := atoms_spec (ws := (Cond.code y_R_third b_R_third 10 (some .int) :: ec_tbl)) B.pre
  have htb : ∀ w ∈ ec_tbl, w.before _ s = true := fun w h => hts w (List.mem_cons_of_mem _ h)
  clear hts
  have hown : s.vm.findClass "ExactMeshModel" = some m.cls := findClass_of_methodNamed B.named
  have hlocks := B.notSynchronized
  have hl := lv_entry ([.ref (a 0), .int (nI i), .int (nI j)]) (n := 10) (Nat.le_of_ble_eq_true rfl)
  rw [lg_entry_eq]
  generalize (lg_sl ([.ref (a 0), .int (nI i), .int (nI j)]) ++ List.replicate (10 - (lg_sl ([.ref (a 0), .int (nI i), .int (nI j)])).length) Slot.unset).toArray = ls at hl ⊢
  replace hl : lv_has ls 10 [(0, .ref (a 0)), (1, .int (nI i)), (2, .int (nI j))] := hl
  refine ec_start (fun H locs hH hlocs => ?_)
  replace hP : va_P (dC, dI) vwCl (wR a cI cZ cJ rn rx ry rl rf rt rh gx gy rc w1 w2 w3 rg rk kc kf kp ++ rest) H := by rw [hH]; exact hP
  have hS : va_S A s.heap H locs := by rw [hH, hlocs]; exact va_S.rf
  clear hH hlocs
  have g12 := gS.1
  have gN := gS.2.1
  have grl := gS.2.2.2.1
  have gll := gS.links
  refine lv_iconst (v := -1) hx hb d_R_third_0 (by decide) ?_
  refine lv_istore_n hx hb d_R_third_1 rfl hl (by decide) rfl (fun ls hl => ?_)
  replace hl : lv_has ls 10 [(3, .int (-1)), (0, .ref (a 0)), (1, .int (nI i)), (2, .int (nI j))] := hl
  refine lv_iconst (v := nI 0) hx hb d_R_third_2 (by decide) ?_
  refine lv_istore hx hb d_R_third_3 hl (by decide) rfl (fun ls hl => ?_)
  replace hl : lv_has ls 10 [(4, .int (nI 0)), (3, .int (-1)), (0, .ref (a 0)), (1, .int (nI i)), (2, .int (nI j))] := hl
  obtain ⟨t, e_t⟩ : ∃ z : Nat, z = 0 := ⟨_, rfl⟩
  obtain ⟨o, e_o⟩ : ∃ z : Option Nat, z = none := ⟨_, rfl⟩
  obtain ⟨g, e_g⟩ : ∃ z : Nat → Int64, z = kp := ⟨_, rfl⟩
  replace hl : lv_has ls 10 [(0, .ref (a 0)), (1, .int (nI i)), (2, .int (nI j)), (3, .int (ec_oi o)), (4, .int (nI t))] := by (try simp only [e_t, e_o, e_g]); exact lv_sub hl [2, 3, 4, 1, 0] rfl
  replace hP : va_P (dC, dI) vwCl (wR a cI cZ cJ rn rx ry rl rf rt rh gx gy rc w1 w2 w3 rg rk kc kf g ++ rest) H := by (try simp only [e_t, e_o, e_g]); exact hP
  replace hD : va_D A (wR a cI cZ cJ rn rx ry rl rf rt rh gx gy rc w1 w2 w3 rg rk kc kf g ++ rest) := ec_Dk hD rfl
  have hle : t ≤ rn := by omega
  have hI : ec_I1 rn (fun i => (rx i).toInt) (fun i => (ry i).toInt) (ec_E rl rf rt) i j t o := by simp only [e_t, e_o]; exact ec_I1_0
  clear e_g e_o e_t
  generalize hk5 : rn - t = k5
  induction k5 using Nat.strongRecOn generalizing t o g ls H locs with
  | ind k5 ih5 =>
  refine lv_iload hx hb d_R_third_5 (lv_at hl 4 rfl) ?_
  refine lv_aload_n hx hb d_R_third_7 rfl (lv_at hl 0 rfl) ?_
  refine va_get (D := (dC, dI)) (ci := 5) (v := .int (nI rn)) (C := R_R) (T := T_R) (N := 18) hx hb htb in_R hown hK hP 0 rfl rfl 0 (by decide) (htb _ wd_449) (fun _ h9 => h9) rfl d_R_third_8 ?_
  refine ec_icmp_ge (tgt := 50) hx hb d_R_third_11 rfl (by omega) (by omega) (fun h11 => ?_) (fun h11 => ?_)
  · generalize hqvb : o = ovb at hl ⊢
    cases ovb with
    | none =>
      replace hl : lv_has ls 10 [(0, .ref (a 0)), (1, .int (nI i)), (2, .int (nI j)), (3, .int (-1)), (4, .int (nI t))] := hl
      refine lv_iload_n hx hb d_R_third_50 rfl (lv_at hl 3 rfl) ?_
      refine lv_if_ge (tgt := 56) hx hb d_R_third_51 rfl (fun h51 => ?_) (fun h51 => ?_)
      · exact absurd h51 (by decide)
      · refine lv_iconst (v := -1) hx hb d_R_third_54 (by decide) ?_
        exact W.iret hx hb hr (fun tS ht hW => ⟨⟨_, g, rfl, ⟨none, rfl, ec_thd_0 (by rw [hqvb] at hI; exact hI) h11⟩, by show va_P _ _ _ tS.heap; rw [ht]; exact hP⟩, hS.F ht⟩) hS.2.2 d_R_third_55
    | some vb =>
      replace hl : lv_has ls 10 [(0, .ref (a 0)), (1, .int (nI i)), (2, .int (nI j)), (3, .int (nI vb)), (4, .int (nI t))] := hl
      have hvb := (hI.2 vb hqvb).1
      refine lv_iload_n hx hb d_R_third_50 rfl (lv_at hl 3 rfl) ?_
      refine ec_if_ge (tgt := 56) hx hb d_R_third_51 rfl (by omega) ?_
      have hIb := hI
      rw [hqvb] at hIb
      have hB := ec_bst_of hIb hle h11
      refine lv_iload_n hx hb d_R_third_56 rfl (lv_at hl 1 rfl) ?_
      refine lv_iload_n hx hb d_R_third_57 rfl (lv_at hl 2 rfl) ?_
      refine ec_icmp_ge (tgt := 65) hx hb d_R_third_58 rfl (by omega) (by omega) (fun h58 => ?_) (fun h58 => ?_)
      · refine lv_iload_n hx hb d_R_third_65 rfl (lv_at hl 2 rfl) ?_
        refine lv_istore hx hb d_R_third_66 hl (by decide) rfl (fun ls hl => ?_)
        replace hl : lv_has ls 10 [(4, .int (nI j)), (0, .ref (a 0)), (1, .int (nI i)), (2, .int (nI j)), (3, .int (nI vb))] := hl
        refine lv_iconst (v := nI 0) hx hb d_R_third_68 (by decide) ?_
        refine lv_istore hx hb d_R_third_69 hl (by decide) rfl (fun ls hl => ?_)
        replace hl : lv_has ls 10 [(5, .int (nI 0)), (4, .int (nI j)), (0, .ref (a 0)), (1, .int (nI i)), (2, .int (nI j)), (3, .int (nI vb))] := hl
        obtain ⟨t2, e_t2⟩ : ∃ z : Nat, z = 0 := ⟨_, rfl⟩
        obtain ⟨mm, e_mm⟩ : ∃ z : Nat, z = j := ⟨_, rfl⟩
        obtain ⟨g2, e_g2⟩ : ∃ z : Nat → Int64, z = g := ⟨_, rfl⟩
        replace hl : lv_has ls 10 [(0, .ref (a 0)), (1, .int (nI i)), (2, .int (nI j)), (3, .int (nI vb)), (4, .int (nI mm)), (5, .int (nI t2))] := by (try simp only [e_t2, e_mm, e_g2]); exact lv_sub hl [2, 3, 4, 5, 1, 0] rfl
        replace hP : va_P (dC, dI) vwCl (wR a cI cZ cJ rn rx ry rl rf rt rh gx gy rc w1 w2 w3 rg rk kc kf g2 ++ rest) H := by (try simp only [e_t2, e_mm, e_g2]); exact hP
        replace hD : va_D A (wR a cI cZ cJ rn rx ry rl rf rt rh gx gy rc w1 w2 w3 rg rk kc kf g2 ++ rest) := ec_Dk hD rfl
        have hle2 : t2 ≤ rn := by omega
        have hmm : mm < 12 := by omega
        have hI2 : ec_I2 rn (fun i => (rx i).toInt) (fun i => (ry i).toInt) (ec_E rl rf rt) i j vb t2 mm := by simp only [e_t2, e_mm]; first | exact ec_I2_a h58 | exact ec_I2_b h58
        clear e_g2 e_mm e_t2
        generalize hk71 : rn - t2 = k71
        induction k71 using Nat.strongRecOn generalizing t2 mm g2 ls H locs with
        | ind k71 ih71 =>
        refine lv_iload hx hb d_R_third_71 (lv_at hl 5 rfl) ?_
        refine lv_aload_n hx hb d_R_third_73 rfl (lv_at hl 0 rfl) ?_
        refine va_get (D := (dC, dI)) (ci := 5) (v := .int (nI rn)) (C := R_R) (T := T_R) (N := 18) hx hb htb in_R hown hK hP 0 rfl rfl 0 (by decide) (htb _ wd_449) (fun _ h9 => h9) rfl d_R_third_74 ?_
        refine ec_icmp_ge (tgt := 125) hx hb d_R_third_77 rfl (by omega) (by omega) (fun h77 => ?_) (fun h77 => ?_)
        · refine lv_iload hx hb d_R_third_125 (lv_at hl 4 rfl) ?_
          refine lv_iload_n hx hb d_R_third_127 rfl (lv_at hl 1 rfl) ?_
          refine ec_icmp_eq (tgt := 140) hx hb d_R_third_128 rfl (by omega) (by omega) (fun h128 => ?_) (fun h128 => ?_)
          · have hmij : mm = i ∨ mm = j := Or.inl h128
            have hI2n := ec_I2_c hI2 (show t2 = rn by omega)
            refine lv_iload_n hx hb d_R_third_140 rfl (lv_at hl 3 rfl) ?_
            refine lv_istore hx hb d_R_third_141 hl (by decide) rfl (fun ls hl => ?_)
            replace hl : lv_has ls 10 [(5, .int (nI vb)), (0, .ref (a 0)), (1, .int (nI i)), (2, .int (nI j)), (3, .int (nI vb)), (4, .int (nI mm))] := hl
            refine lv_iconst (v := nI 0) hx hb d_R_third_143 (by decide) ?_
            refine lv_istore hx hb d_R_third_144 hl (by decide) rfl (fun ls hl => ?_)
            replace hl : lv_has ls 10 [(6, .int (nI 0)), (5, .int (nI vb)), (0, .ref (a 0)), (1, .int (nI i)), (2, .int (nI j)), (3, .int (nI vb)), (4, .int (nI mm))] := hl
            obtain ⟨t3, e_t3⟩ : ∃ z : Nat, z = 0 := ⟨_, rfl⟩
            obtain ⟨ff, e_ff⟩ : ∃ z : Nat, z = vb := ⟨_, rfl⟩
            obtain ⟨g3, e_g3⟩ : ∃ z : Nat → Int64, z = g2 := ⟨_, rfl⟩
            replace hl : lv_has ls 10 [(0, .ref (a 0)), (1, .int (nI i)), (2, .int (nI j)), (3, .int (nI vb)), (4, .int (nI mm)), (5, .int (nI ff)), (6, .int (nI t3))] := by (try simp only [e_t3, e_ff, e_g3]); exact lv_sub hl [2, 3, 4, 5, 6, 1, 0] rfl
            replace hP : va_P (dC, dI) vwCl (wR a cI cZ cJ rn rx ry rl rf rt rh gx gy rc w1 w2 w3 rg rk kc kf g3 ++ rest) H := by (try simp only [e_t3, e_ff, e_g3]); exact hP
            replace hD : va_D A (wR a cI cZ cJ rn rx ry rl rf rt rh gx gy rc w1 w2 w3 rg rk kc kf g3 ++ rest) := ec_Dk hD rfl
            have hle3 : t3 ≤ rn := by omega
            have hI3 : ec_I3 rn (fun i => (rx i).toInt) (fun i => (ry i).toInt) (ec_E rl rf rt) i j vb t3 ff := by simp only [e_t3, e_ff]; exact ec_I3_0 hB.1 hB.2.1
            clear e_g3 e_ff e_t3
            generalize hk146 : rn - t3 = k146
            induction k146 using Nat.strongRecOn generalizing t3 ff g3 ls H locs with
            | ind k146 ih146 =>
            refine lv_iload hx hb d_R_third_146 (lv_at hl 6 rfl) ?_
            refine lv_aload_n hx hb d_R_third_148 rfl (lv_at hl 0 rfl) ?_
            refine va_get (D := (dC, dI)) (ci := 5) (v := .int (nI rn)) (C := R_R) (T := T_R) (N := 18) hx hb htb in_R hown hK hP 0 rfl rfl 0 (by decide) (htb _ wd_449) (fun _ h9 => h9) rfl d_R_third_149 ?_
            refine ec_icmp_ge (tgt := 252) hx hb d_R_third_152 rfl (by omega) (by omega) (fun h152 => ?_) (fun h152 => ?_)
            · refine lv_iload hx hb d_R_third_252 (lv_at hl 5 rfl) ?_
              exact W.iret hx hb hr (fun tS ht hW => ⟨⟨_, g3, rfl, ⟨some ff, rfl, ec_thd_3 hI3 h152⟩, by show va_P _ _ _ tS.heap; rw [ht]; exact hP⟩, hS.F ht⟩) hS.2.2 d_R_third_254
            · have hff := hI3.1
              refine lv_iload hx hb d_R_third_155 (lv_at hl 6 rfl) ?_
              refine lv_iload hx hb d_R_third_157 (lv_at hl 5 rfl) ?_
              refine ec_icmp_eq (tgt := 189) hx hb d_R_third_159 rfl (by omega) (by omega) (fun h159 => ?_) (fun h159 => ?_)
              · refine lv_iconst (v := nI 0) hx hb d_R_third_189 (by decide) ?_
                refine lv_istore hx hb d_R_third_190 hl (by decide) rfl (fun ls hl => ?_)
                replace hl : lv_has ls 10 [(7, .int (nI 0)), (0, .ref (a 0)), (1, .int (nI i)), (2, .int (nI j)), (3, .int (nI vb)), (4, .int (nI mm)), (5, .int (nI ff)), (6, .int (nI t3))] := hl
                refine lv_iload hx hb d_R_third_192 (lv_at hl 0 rfl) ?_
                refine ec_if_eq (tgt := 227) hx hb d_R_third_194 rfl (by omega) (fun h194 => ?_) (fun h194 => ?_)
                · refine lv_lconst (v := 0) hx hb d_R_third_227 (by decide) ?_
                  refine lv_lstore hx hb d_R_third_228 hl (by decide) rfl (fun ls hl => ?_)
                  replace hl : lv_has ls 10 [(8, .long 0), (7, .int (nI 0)), (0, .ref (a 0)), (1, .int (nI i)), (2, .int (nI j)), (3, .int (nI vb)), (4, .int (nI mm)), (5, .int (nI ff)), (6, .int (nI t3))] := hl
                  refine lv_lload hx hb d_R_third_230 (lv_at hl 0 rfl) ?_
                  refine lv_lconst (v := 0) hx hb d_R_third_232 (by decide) ?_
                  refine W.lcmp hx hb d_R_third_233 ?_
                  refine lv_if_le (tgt := 242) hx hb d_R_third_234 rfl (fun h234 => ?_) (fun h234 => ?_)
                  · rw [lg_cmp_le] at h234
                    refine lv_iload hx hb d_R_third_242 (lv_at hl 7 rfl) ?_
                    refine lv_istore hx hb d_R_third_244 hl (by decide) rfl (fun ls hl => ?_)
                    replace hl : lv_has ls 10 [(5, .int (nI ff)), (8, .long 0), (7, .int (nI 0)), (0, .ref (a 0)), (1, .int (nI i)), (2, .int (nI j)), (3, .int (nI vb)), (4, .int (nI mm)), (6, .int (nI t3))] := hl
                    refine ec_iinc (k := 8) hx hb d_R_third_246 hl rfl (by decide) rfl (fun ls hl => ?_)
                    replace hl : lv_has ls 10 [(6, .int (nI (t3 + 1))), (5, .int (nI ff)), (8, .long 0), (7, .int (nI 0)), (0, .ref (a 0)), (1, .int (nI i)), (2, .int (nI j)), (3, .int (nI vb)), (4, .int (nI mm))] := hl
                    refine lv_goto (tgt := 146) hx hb d_R_third_249 rfl ?_
                    exact ih146 _ (by omega) (t3 := t3 + 1) (ff := ff) (g3 := g3) (ls := ls) (H := H) (locs := locs) (hS := hS) (hl := lv_sub hl [4, 5, 6, 7, 8, 1, 0] rfl) (hP := hP) (hD := hD) (hle3 := (by omega)) (hI3 := (ec_I3_keep gS.2.2.1 g12 (fun i hi => (gN i hi).1) (fun i hi => (gN i hi).2) hi hj hij hB.2.1 hB.2.2 hI2n hmij hI3 (fun q => q.1 h159))) (hk146 := rfl)
                  · rw [lg_cmp_le] at h234
                    exact absurd (by decide) h234
                · exact absurd h194 (by decide)
              · refine lv_aload_n hx hb d_R_third_162 rfl (lv_at hl 0 rfl) ?_
                refine lv_iload_n hx hb d_R_third_163 rfl (lv_at hl 1 rfl) ?_
                refine lv_iload_n hx hb d_R_third_164 rfl (lv_at hl 2 rfl) ?_
                refine lv_iload hx hb d_R_third_165 (lv_at hl 6 rfl) ?_
                refine ec_vSi (C := "ExactMeshModel") (ci := 5) (q := (R_R, T_R, 18)) (q0 := 0) (As := [.int (nI i), .int (nI j), .int (nI t3)]) (rest := []) ⟨hx, hb, hml, hown, htb⟩ (c_R_canBe l dC dI a cI cZ cJ rn rx ry rl rf rt rh gx gy rc w1 w2 w3 rg rk kc kf g3 rest i j t3 g12 gN grl gll (by omega) (by omega) (by omega)) kv_R_canBe hK hP rfl rfl rfl wd_594 ⟨Nat.le_of_ble_eq_true rfl, Nat.le_of_ble_eq_true rfl⟩ ⟨rfl, rfl⟩ rfl hl.1 rfl (Nat.le_of_ble_eq_true rfl) d_R_third_167 ⟨Nat.zero_le _, Nat.zero_le _⟩ (fun r167 hr167 => ?_)
                replace hr167 : ec_isB r167 (ec_can rn (ec_P rx ry) (ec_E rl rf rt) i j t3) := hr167
                refine ec_if_eqB (tgt := 189) hx hb hr167 d_R_third_170 rfl (fun h170 => ?_) (fun h170 => ?_)
                · refine lv_iconst (v := nI 0) hx hb d_R_third_189 (by decide) ?_
                  refine lv_istore hx hb d_R_third_190 hl (by decide) rfl (fun ls hl => ?_)
                  replace hl : lv_has ls 10 [(7, .int (nI 0)), (0, .ref (a 0)), (1, .int (nI i)), (2, .int (nI j)), (3, .int (nI vb)), (4, .int (nI mm)), (5, .int (nI ff)), (6, .int (nI t3))] := hl
                  refine lv_iload hx hb d_R_third_192 (lv_at hl 0 rfl) ?_
                  refine ec_if_eq (tgt := 227) hx hb d_R_third_194 rfl (by omega) (fun h194_1 => ?_) (fun h194_1 => ?_)
                  · refine lv_lconst (v := 0) hx hb d_R_third_227 (by decide) ?_
                    refine lv_lstore hx hb d_R_third_228 hl (by decide) rfl (fun ls hl => ?_)
                    replace hl : lv_has ls 10 [(8, .long 0), (7, .int (nI 0)), (0, .ref (a 0)), (1, .int (nI i)), (2, .int (nI j)), (3, .int (nI vb)), (4, .int (nI mm)), (5, .int (nI ff)), (6, .int (nI t3))] := hl
                    refine lv_lload hx hb d_R_third_230 (lv_at hl 0 rfl) ?_
                    refine lv_lconst (v := 0) hx hb d_R_third_232 (by decide) ?_
                    refine W.lcmp hx hb d_R_third_233 ?_
                    refine lv_if_le (tgt := 242) hx hb d_R_third_234 rfl (fun h234_1 => ?_) (fun h234_1 => ?_)
                    · rw [lg_cmp_le] at h234_1
                      refine lv_iload hx hb d_R_third_242 (lv_at hl 7 rfl) ?_
                      refine lv_istore hx hb d_R_third_244 hl (by decide) rfl (fun ls hl => ?_)
                      replace hl : lv_has ls 10 [(5, .int (nI ff)), (8, .long 0), (7, .int (nI 0)), (0, .ref (a 0)), (1, .int (nI i)), (2, .int (nI j)), (3, .int (nI vb)), (4, .int (nI mm)), (6, .int (nI t3))] := hl
                      refine ec_iinc (k := 8) hx hb d_R_third_246 hl rfl (by decide) rfl (fun ls hl => ?_)
                      replace hl : lv_has ls 10 [(6, .int (nI (t3 + 1))), (5, .int (nI ff)), (8, .long 0), (7, .int (nI 0)), (0, .ref (a 0)), (1, .int (nI i)), (2, .int (nI j)), (3, .int (nI vb)), (4, .int (nI mm))] := hl
                      refine lv_goto (tgt := 146) hx hb d_R_third_249 rfl ?_
                      exact ih146 _ (by omega) (t3 := t3 + 1) (ff := ff) (g3 := g3) (ls := ls) (H := H) (locs := locs) (hS := hS) (hl := lv_sub hl [4, 5, 6, 7, 8, 1, 0] rfl) (hP := hP) (hD := hD) (hle3 := (by omega)) (hI3 := (ec_I3_keep gS.2.2.1 g12 (fun i hi => (gN i hi).1) (fun i hi => (gN i hi).2) hi hj hij hB.2.1 hB.2.2 hI2n hmij hI3 (fun q => h170 q.2.1))) (hk146 := rfl)
                    · rw [lg_cmp_le] at h234_1
                      exact absurd (by decide) h234_1
                  · exact absurd h194_1 (by decide)
                · refine lv_aload_n hx hb d_R_third_173 rfl (lv_at hl 0 rfl) ?_
                  refine lv_iload_n hx hb d_R_third_174 rfl (lv_at hl 1 rfl) ?_
                  refine lv_iload_n hx hb d_R_third_175 rfl (lv_at hl 2 rfl) ?_
                  refine lv_iload_n hx hb d_R_third_176 rfl (lv_at hl 3 rfl) ?_
                  refine lv_iload hx hb d_R_third_177 (lv_at hl 6 rfl) ?_
                  refine ec_vQi (C := "ExactMeshModel") (ci := 5) (q := (R_R, T_R, 18)) (q0 := 0) (As := [.int (nI i), .int (nI j), .int (nI vb), .int (nI t3)]) (rest := []) ⟨hx, hb, hml, hown, htb⟩ (c_R_circle l dC dI a cI cZ cJ rn rx ry rl rf rt rh gx gy rc w1 w2 w3 rg rk kc kf g3 rest i j vb t3 g12 gN (by omega) (by omega) (by omega) (by omega) A hD) kv_R_circle hK hP rfl rfl rfl hS wd_561 ⟨Nat.le_of_ble_eq_true rfl, Nat.le_of_ble_eq_true rfl⟩ ⟨rfl, rfl⟩ rfl hl.1 rfl (Nat.le_of_ble_eq_true rfl) d_R_third_179 ⟨Nat.zero_le _, Nat.zero_le _⟩ (fun r179 ur179 H locs hr179 hP hS => ?_)
                  replace hr179 : r179 = ec_sgn (ec_circ rx ry i j vb t3) := hr179
                  replace hP : va_P (dC, dI) vwCl (wR a cI cZ cJ rn rx ry rl rf rt rh gx gy rc w1 w2 w3 rg rk kc kf ur179 ++ rest) H := hP
                  replace hD : va_D A (wR a cI cZ cJ rn rx ry rl rf rt rh gx gy rc w1 w2 w3 rg rk kc kf ur179 ++ rest) := ec_Dk hD rfl
                  subst hr179
                  refine lv_if_ne (tgt := 189) hx hb d_R_third_182 rfl (fun h182 => ?_) (fun h182 => ?_)
                  · refine lv_iconst (v := nI 0) hx hb d_R_third_189 (by decide) ?_
                    refine lv_istore hx hb d_R_third_190 hl (by decide) rfl (fun ls hl => ?_)
                    replace hl : lv_has ls 10 [(7, .int (nI 0)), (0, .ref (a 0)), (1, .int (nI i)), (2, .int (nI j)), (3, .int (nI vb)), (4, .int (nI mm)), (5, .int (nI ff)), (6, .int (nI t3))] := hl
                    refine lv_iload hx hb d_R_third_192 (lv_at hl 0 rfl) ?_
                    refine ec_if_eq (tgt := 227) hx hb d_R_third_194 rfl (by omega) (fun h194_2 => ?_) (fun h194_2 => ?_)
                    · refine lv_lconst (v := 0) hx hb d_R_third_227 (by decide) ?_
                      refine lv_lstore hx hb d_R_third_228 hl (by decide) rfl (fun ls hl => ?_)
                      replace hl : lv_has ls 10 [(8, .long 0), (7, .int (nI 0)), (0, .ref (a 0)), (1, .int (nI i)), (2, .int (nI j)), (3, .int (nI vb)), (4, .int (nI mm)), (5, .int (nI ff)), (6, .int (nI t3))] := hl
                      refine lv_lload hx hb d_R_third_230 (lv_at hl 0 rfl) ?_
                      refine lv_lconst (v := 0) hx hb d_R_third_232 (by decide) ?_
                      refine W.lcmp hx hb d_R_third_233 ?_
                      refine lv_if_le (tgt := 242) hx hb d_R_third_234 rfl (fun h234_2 => ?_) (fun h234_2 => ?_)
                      · rw [lg_cmp_le] at h234_2
                        refine lv_iload hx hb d_R_third_242 (lv_at hl 7 rfl) ?_
                        refine lv_istore hx hb d_R_third_244 hl (by decide) rfl (fun ls hl => ?_)
                        replace hl : lv_has ls 10 [(5, .int (nI ff)), (8, .long 0), (7, .int (nI 0)), (0, .ref (a 0)), (1, .int (nI i)), (2, .int (nI j)), (3, .int (nI vb)), (4, .int (nI mm)), (6, .int (nI t3))] := hl
                        refine ec_iinc (k := 8) hx hb d_R_third_246 hl rfl (by decide) rfl (fun ls hl => ?_)
                        replace hl : lv_has ls 10 [(6, .int (nI (t3 + 1))), (5, .int (nI ff)), (8, .long 0), (7, .int (nI 0)), (0, .ref (a 0)), (1, .int (nI i)), (2, .int (nI j)), (3, .int (nI vb)), (4, .int (nI mm))] := hl
                        refine lv_goto (tgt := 146) hx hb d_R_third_249 rfl ?_
                        exact ih146 _ (by omega) (t3 := t3 + 1) (ff := ff) (g3 := ur179) (ls := ls) (H := H) (locs := locs) (hS := hS) (hl := lv_sub hl [4, 5, 6, 7, 8, 1, 0] rfl) (hP := hP) (hD := hD) (hle3 := (by omega)) (hI3 := (ec_I3_keep gS.2.2.1 g12 (fun i hi => (gN i hi).1) (fun i hi => (gN i hi).2) hi hj hij hB.2.1 hB.2.2 hI2n hmij hI3 (fun q => h182 ((ec_sgn_eq _).mpr q.2.2.1)))) (hk146 := rfl)
                      · rw [lg_cmp_le] at h234_2
                        exact absurd (by decide) h234_2
                    · exact absurd h194_2 (by decide)
                  · refine lv_iconst (v := nI 1) hx hb d_R_third_185 (by decide) ?_
                    refine lv_goto (tgt := 190) hx hb d_R_third_186 rfl ?_
                    refine lv_istore hx hb d_R_third_190 hl (by decide) rfl (fun ls hl => ?_)
                    replace hl : lv_has ls 10 [(7, .int (nI 1)), (0, .ref (a 0)), (1, .int (nI i)), (2, .int (nI j)), (3, .int (nI vb)), (4, .int (nI mm)), (5, .int (nI ff)), (6, .int (nI t3))] := hl
                    refine lv_iload hx hb d_R_third_192 (lv_at hl 0 rfl) ?_
                    refine ec_if_eq (tgt := 227) hx hb d_R_third_194 rfl (by omega) (fun h194_3 => ?_) (fun h194_3 => ?_)
                    · exact absurd h194_3 (by decide)
                    · refine lv_iload hx hb d_R_third_197 (lv_at hl 5 rfl) ?_
                      refine lv_iload_n hx hb d_R_third_199 rfl (lv_at hl 2 rfl) ?_
                      refine ec_icmp_ne (tgt := 215) hx hb d_R_third_200 rfl (by omega) (by omega) (fun h200 => ?_) (fun h200 => ?_)
                      · refine lv_aload_n hx hb d_R_third_215 rfl (lv_at hl 1 rfl) ?_
                        refine lv_iload hx hb d_R_third_216 (lv_at hl 7 rfl) ?_
                        refine lv_iload_n hx hb d_R_third_218 rfl (lv_at hl 2 rfl) ?_
                        refine lv_iload hx hb d_R_third_219 (lv_at hl 6 rfl) ?_
                        refine ec_vSl (C := "ExactMeshModel") (ci := 5) (q := (R_R, T_R, 18)) (q0 := 0) (As := [.int (nI t3), .int (nI i), .int (nI ff)]) (rest := []) ⟨hx, hb, hml, hown, htb⟩ (c_R_of l dC dI a cI cZ cJ rn rx ry rl rf rt rh gx gy rc w1 w2 w3 rg rk kc kf ur179 rest t3 i ff g12 gN (by omega) (by omega) (by omega)) kv_R_of hK hP rfl rfl rfl wd_541 ⟨Nat.le_of_ble_eq_true rfl, Nat.le_of_ble_eq_true rfl⟩ ⟨rfl, rfl⟩ rfl hl.1 rfl (Nat.le_of_ble_eq_true rfl) d_R_third_221 ⟨Nat.zero_le _, Nat.zero_le _⟩ (fun r221 hr221 => ?_)
                        replace hr221 : r221.toInt = ge_ori (ec_P rx ry t3) (ec_P rx ry i) (ec_P rx ry ff) := hr221
                        refine lv_goto (tgt := 228) hx hb d_R_third_224 rfl ?_
                        refine lv_lstore hx hb d_R_third_228 hl (by decide) rfl (fun ls hl => ?_)
                        replace hl : lv_has ls 10 [(8, .long r221), (7, .int (nI 1)), (0, .ref (a 0)), (1, .int (nI i)), (2, .int (nI j)), (3, .int (nI vb)), (4, .int (nI mm)), (5, .int (nI ff)), (6, .int (nI t3))] := hl
                        refine lv_lload hx hb d_R_third_230 (lv_at hl 0 rfl) ?_
                        refine lv_lconst (v := 0) hx hb d_R_third_232 (by decide) ?_
                        refine W.lcmp hx hb d_R_third_233 ?_
                        refine lv_if_le (tgt := 242) hx hb d_R_third_234 rfl (fun h234_3 => ?_) (fun h234_3 => ?_)
                        · rw [lg_cmp_le] at h234_3
                          refine lv_iload hx hb d_R_third_242 (lv_at hl 7 rfl) ?_
                          refine lv_istore hx hb d_R_third_244 hl (by decide) rfl (fun ls hl => ?_)
                          replace hl : lv_has ls 10 [(5, .int (nI ff)), (8, .long r221), (7, .int (nI 1)), (0, .ref (a 0)), (1, .int (nI i)), (2, .int (nI j)), (3, .int (nI vb)), (4, .int (nI mm)), (6, .int (nI t3))] := hl
                          refine ec_iinc (k := 8) hx hb d_R_third_246 hl rfl (by decide) rfl (fun ls hl => ?_)
                          replace hl : lv_has ls 10 [(6, .int (nI (t3 + 1))), (5, .int (nI ff)), (8, .long r221), (7, .int (nI 1)), (0, .ref (a 0)), (1, .int (nI i)), (2, .int (nI j)), (3, .int (nI vb)), (4, .int (nI mm))] := hl
                          refine lv_goto (tgt := 146) hx hb d_R_third_249 rfl ?_
                          exact ih146 _ (by omega) (t3 := t3 + 1) (ff := ff) (g3 := ur179) (ls := ls) (H := H) (locs := locs) (hS := hS) (hl := lv_sub hl [4, 5, 6, 7, 8, 1, 0] rfl) (hP := hP) (hD := hD) (hle3 := (by omega)) (hI3 := (ec_I3_keep gS.2.2.1 g12 (fun i hi => (gN i hi).1) (fun i hi => (gN i hi).2) hi hj hij hB.2.1 hB.2.2 hI2n hmij hI3 (fun q => by have z := q.2.2.2; rw [ec_bes_b h200] at z; exact absurd z (Int.not_lt.mpr (ec_le0 hr221 h234_3))))) (hk146 := rfl)
                        · rw [lg_cmp_le] at h234_3
                          refine lv_iload hx hb d_R_third_237 (lv_at hl 8 rfl) ?_
                          refine lv_goto (tgt := 244) hx hb d_R_third_239 rfl ?_
                          refine lv_istore hx hb d_R_third_244 hl (by decide) rfl (fun ls hl => ?_)
                          replace hl : lv_has ls 10 [(5, .int (nI t3)), (8, .long r221), (7, .int (nI 1)), (0, .ref (a 0)), (1, .int (nI i)), (2, .int (nI j)), (3, .int (nI vb)), (4, .int (nI mm)), (6, .int (nI t3))] := hl
                          refine ec_iinc (k := 8) hx hb d_R_third_246 hl rfl (by decide) rfl (fun ls hl => ?_)
                          replace hl : lv_has ls 10 [(6, .int (nI (t3 + 1))), (5, .int (nI t3)), (8, .long r221), (7, .int (nI 1)), (0, .ref (a 0)), (1, .int (nI i)), (2, .int (nI j)), (3, .int (nI vb)), (4, .int (nI mm))] := hl
                          refine lv_goto (tgt := 146) hx hb d_R_third_249 rfl ?_
                          exact ih146 _ (by omega) (t3 := t3 + 1) (ff := t3) (g3 := ur179) (ls := ls) (H := H) (locs := locs) (hS := hS) (hl := lv_sub hl [4, 5, 6, 7, 8, 1, 0] rfl) (hP := hP) (hD := hD) (hle3 := (by omega)) (hI3 := (ec_I3_take gS.2.2.1 g12 (fun i hi => (gN i hi).1) (fun i hi => (gN i hi).2) hi hj hij hB.2.1 hB.2.2 hI2n hmij hI3 h152 h170 ((ec_sgn_eq _).mp h182) (by rw [ec_bes_b h200]; exact ec_gt0 hr221 h234_3))) (hk146 := rfl)
                      · refine lv_aload_n hx hb d_R_third_203 rfl (lv_at hl 1 rfl) ?_
                        refine lv_iload_n hx hb d_R_third_204 rfl (lv_at hl 3 rfl) ?_
                        refine lv_iload hx hb d_R_third_205 (lv_at hl 7 rfl) ?_
                        refine lv_iload hx hb d_R_third_207 (lv_at hl 6 rfl) ?_
                        refine ec_vSl (C := "ExactMeshModel") (ci := 5) (q := (R_R, T_R, 18)) (q0 := 0) (As := [.int (nI j), .int (nI t3), .int (nI ff)]) (rest := []) ⟨hx, hb, hml, hown, htb⟩ (c_R_of l dC dI a cI cZ cJ rn rx ry rl rf rt rh gx gy rc w1 w2 w3 rg rk kc kf ur179 rest j t3 ff g12 gN (by omega) (by omega) (by omega)) kv_R_of hK hP rfl rfl rfl wd_541 ⟨Nat.le_of_ble_eq_true rfl, Nat.le_of_ble_eq_true rfl⟩ ⟨rfl, rfl⟩ rfl hl.1 rfl (Nat.le_of_ble_eq_true rfl) d_R_third_209 ⟨Nat.zero_le _, Nat.zero_le _⟩ (fun r209 hr209 => ?_)
                        replace hr209 : r209.toInt = ge_ori (ec_P rx ry j) (ec_P rx ry t3) (ec_P rx ry ff) := hr209
                        refine lv_goto (tgt := 228) hx hb d_R_third_212 rfl ?_
                        refine lv_lstore hx hb d_R_third_228 hl (by decide) rfl (fun ls hl => ?_)
                        replace hl : lv_has ls 10 [(8, .long r209), (7, .int (nI 1)), (0, .ref (a 0)), (1, .int (nI i)), (2, .int (nI j)), (3, .int (nI vb)), (4, .int (nI mm)), (5, .int (nI ff)), (6, .int (nI t3))] := hl
                        refine lv_lload hx hb d_R_third_230 (lv_at hl 0 rfl) ?_
                        refine lv_lconst (v := 0) hx hb d_R_third_232 (by decide) ?_
                        refine W.lcmp hx hb d_R_third_233 ?_
                        refine lv_if_le (tgt := 242) hx hb d_R_third_234 rfl (fun h234_4 => ?_) (fun h234_4 => ?_)
                        · rw [lg_cmp_le] at h234_4
                          refine lv_iload hx hb d_R_third_242 (lv_at hl 7 rfl) ?_
                          refine lv_istore hx hb d_R_third_244 hl (by decide) rfl (fun ls hl => ?_)
                          replace hl : lv_has ls 10 [(5, .int (nI ff)), (8, .long r209), (7, .int (nI 1)), (0, .ref (a 0)), (1, .int (nI i)), (2, .int (nI j)), (3, .int (nI vb)), (4, .int (nI mm)), (6, .int (nI t3))] := hl
                          refine ec_iinc (k := 8) hx hb d_R_third_246 hl rfl (by decide) rfl (fun ls hl => ?_)
                          replace hl : lv_has ls 10 [(6, .int (nI (t3 + 1))), (5, .int (nI ff)), (8, .long r209), (7, .int (nI 1)), (0, .ref (a 0)), (1, .int (nI i)), (2, .int (nI j)), (3, .int (nI vb)), (4, .int (nI mm))] := hl
                          refine lv_goto (tgt := 146) hx hb d_R_third_249 rfl ?_
                          exact ih146 _ (by omega) (t3 := t3 + 1) (ff := ff) (g3 := ur179) (ls := ls) (H := H) (locs := locs) (hS := hS) (hl := lv_sub hl [4, 5, 6, 7, 8, 1, 0] rfl) (hP := hP) (hD := hD) (hle3 := (by omega)) (hI3 := (ec_I3_keep gS.2.2.1 g12 (fun i hi => (gN i hi).1) (fun i hi => (gN i hi).2) hi hj hij hB.2.1 hB.2.2 hI2n hmij hI3 (fun q => by have z := q.2.2.2; rw [ec_bes_a h200] at z; exact absurd z (Int.not_lt.mpr (ec_le0 hr209 h234_4))))) (hk146 := rfl)
                        · rw [lg_cmp_le] at h234_4
                          refine lv_iload hx hb d_R_third_237 (lv_at hl 8 rfl) ?_
                          refine lv_goto (tgt := 244) hx hb d_R_third_239 rfl ?_
                          refine lv_istore hx hb d_R_third_244 hl (by decide) rfl (fun ls hl => ?_)
                          replace hl : lv_has ls 10 [(5, .int (nI t3)), (8, .long r209), (7, .int (nI 1)), (0, .ref (a 0)), (1, .int (nI i)), (2, .int (nI j)), (3, .int (nI vb)), (4, .int (nI mm)), (6, .int (nI t3))] := hl
                          refine ec_iinc (k := 8) hx hb d_R_third_246 hl rfl (by decide) rfl (fun ls hl => ?_)
                          replace hl : lv_has ls 10 [(6, .int (nI (t3 + 1))), (5, .int (nI t3)), (8, .long r209), (7, .int (nI 1)), (0, .ref (a 0)), (1, .int (nI i)), (2, .int (nI j)), (3, .int (nI vb)), (4, .int (nI mm))] := hl
                          refine lv_goto (tgt := 146) hx hb d_R_third_249 rfl ?_
                          exact ih146 _ (by omega) (t3 := t3 + 1) (ff := t3) (g3 := ur179) (ls := ls) (H := H) (locs := locs) (hS := hS) (hl := lv_sub hl [4, 5, 6, 7, 8, 1, 0] rfl) (hP := hP) (hD := hD) (hle3 := (by omega)) (hI3 := (ec_I3_take gS.2.2.1 g12 (fun i hi => (gN i hi).1) (fun i hi => (gN i hi).2) hi hj hij hB.2.1 hB.2.2 hI2n hmij hI3 h152 h170 ((ec_sgn_eq _).mp h182) (by rw [ec_bes_a h200]; exact ec_gt0 hr209 h234_4))) (hk146 := rfl)
          · refine lv_iload hx hb d_R_third_131 (lv_at hl 4 rfl) ?_
            refine lv_iload_n hx hb d_R_third_133 rfl (lv_at hl 2 rfl) ?_
            refine ec_icmp_eq (tgt := 140) hx hb d_R_third_134 rfl (by omega) (by omega) (fun h134 => ?_) (fun h134 => ?_)
            · have hmij : mm = i ∨ mm = j := Or.inr h134
              have hI2n := ec_I2_c hI2 (show t2 = rn by omega)
              refine lv_iload_n hx hb d_R_third_140 rfl (lv_at hl 3 rfl) ?_
              refine lv_istore hx hb d_R_third_141 hl (by decide) rfl (fun ls hl => ?_)
              replace hl : lv_has ls 10 [(5, .int (nI vb)), (0, .ref (a 0)), (1, .int (nI i)), (2, .int (nI j)), (3, .int (nI vb)), (4, .int (nI mm))] := hl
              refine lv_iconst (v := nI 0) hx hb d_R_third_143 (by decide) ?_
              refine lv_istore hx hb d_R_third_144 hl (by decide) rfl (fun ls hl => ?_)
              replace hl : lv_has ls 10 [(6, .int (nI 0)), (5, .int (nI vb)), (0, .ref (a 0)), (1, .int (nI i)), (2, .int (nI j)), (3, .int (nI vb)), (4, .int (nI mm))] := hl
              obtain ⟨t3, e_t3⟩ : ∃ z : Nat, z = 0 := ⟨_, rfl⟩
              obtain ⟨ff, e_ff⟩ : ∃ z : Nat, z = vb := ⟨_, rfl⟩
              obtain ⟨g3, e_g3⟩ : ∃ z : Nat → Int64, z = g2 := ⟨_, rfl⟩
              replace hl : lv_has ls 10 [(0, .ref (a 0)), (1, .int (nI i)), (2, .int (nI j)), (3, .int (nI vb)), (4, .int (nI mm)), (5, .int (nI ff)), (6, .int (nI t3))] := by (try simp only [e_t3, e_ff, e_g3]); exact lv_sub hl [2, 3, 4, 5, 6, 1, 0] rfl
              replace hP : va_P (dC, dI) vwCl (wR a cI cZ cJ rn rx ry rl rf rt rh gx gy rc w1 w2 w3 rg rk kc kf g3 ++ rest) H := by (try simp only [e_t3, e_ff, e_g3]); exact hP
              replace hD : va_D A (wR a cI cZ cJ rn rx ry rl rf rt rh gx gy rc w1 w2 w3 rg rk kc kf g3 ++ rest) := ec_Dk hD rfl
              have hle3 : t3 ≤ rn := by omega
              have hI3 : ec_I3 rn (fun i => (rx i).toInt) (fun i => (ry i).toInt) (ec_E rl rf rt) i j vb t3 ff := by simp only [e_t3, e_ff]; exact ec_I3_0 hB.1 hB.2.1
              clear e_g3 e_ff e_t3
              generalize hk146 : rn - t3 = k146
              induction k146 using Nat.strongRecOn generalizing t3 ff g3 ls H locs with
              | ind k146 ih146 =>
              refine lv_iload hx hb d_R_third_146 (lv_at hl 6 rfl) ?_
              refine lv_aload_n hx hb d_R_third_148 rfl (lv_at hl 0 rfl) ?_
              refine va_get (D := (dC, dI)) (ci := 5) (v := .int (nI rn)) (C := R_R) (T := T_R) (N := 18) hx hb htb in_R hown hK hP 0 rfl rfl 0 (by decide) (htb _ wd_449) (fun _ h9 => h9) rfl d_R_third_149 ?_
              refine ec_icmp_ge (tgt := 252) hx hb d_R_third_152 rfl (by omega) (by omega) (fun h152_1 => ?_) (fun h152_1 => ?_)
              · refine lv_iload hx hb d_R_third_252 (lv_at hl 5 rfl) ?_
                exact W.iret hx hb hr (fun tS ht hW => ⟨⟨_, g3, rfl, ⟨some ff, rfl, ec_thd_3 hI3 h152_1⟩, by show va_P _ _ _ tS.heap; rw [ht]; exact hP⟩, hS.F ht⟩) hS.2.2 d_R_third_254
              · have hff := hI3.1
                refine lv_iload hx hb d_R_third_155 (lv_at hl 6 rfl) ?_
                refine lv_iload hx hb d_R_third_157 (lv_at hl 5 rfl) ?_
                refine ec_icmp_eq (tgt := 189) hx hb d_R_third_159 rfl (by omega) (by omega) (fun h159_1 => ?_) (fun h159_1 => ?_)
                · refine lv_iconst (v := nI 0) hx hb d_R_third_189 (by decide) ?_
                  refine lv_istore hx hb d_R_third_190 hl (by decide) rfl (fun ls hl => ?_)
                  replace hl : lv_has ls 10 [(7, .int (nI 0)), (0, .ref (a 0)), (1, .int (nI i)), (2, .int (nI j)), (3, .int (nI vb)), (4, .int (nI mm)), (5, .int (nI ff)), (6, .int (nI t3))] := hl
                  refine lv_iload hx hb d_R_third_192 (lv_at hl 0 rfl) ?_
                  refine ec_if_eq (tgt := 227) hx hb d_R_third_194 rfl (by omega) (fun h194_4 => ?_) (fun h194_4 => ?_)
                  · refine lv_lconst (v := 0) hx hb d_R_third_227 (by decide) ?_
                    refine lv_lstore hx hb d_R_third_228 hl (by decide) rfl (fun ls hl => ?_)
                    replace hl : lv_has ls 10 [(8, .long 0), (7, .int (nI 0)), (0, .ref (a 0)), (1, .int (nI i)), (2, .int (nI j)), (3, .int (nI vb)), (4, .int (nI mm)), (5, .int (nI ff)), (6, .int (nI t3))] := hl
                    refine lv_lload hx hb d_R_third_230 (lv_at hl 0 rfl) ?_
                    refine lv_lconst (v := 0) hx hb d_R_third_232 (by decide) ?_
                    refine W.lcmp hx hb d_R_third_233 ?_
                    refine lv_if_le (tgt := 242) hx hb d_R_third_234 rfl (fun h234_5 => ?_) (fun h234_5 => ?_)
                    · rw [lg_cmp_le] at h234_5
                      refine lv_iload hx hb d_R_third_242 (lv_at hl 7 rfl) ?_
                      refine lv_istore hx hb d_R_third_244 hl (by decide) rfl (fun ls hl => ?_)
                      replace hl : lv_has ls 10 [(5, .int (nI ff)), (8, .long 0), (7, .int (nI 0)), (0, .ref (a 0)), (1, .int (nI i)), (2, .int (nI j)), (3, .int (nI vb)), (4, .int (nI mm)), (6, .int (nI t3))] := hl
                      refine ec_iinc (k := 8) hx hb d_R_third_246 hl rfl (by decide) rfl (fun ls hl => ?_)
                      replace hl : lv_has ls 10 [(6, .int (nI (t3 + 1))), (5, .int (nI ff)), (8, .long 0), (7, .int (nI 0)), (0, .ref (a 0)), (1, .int (nI i)), (2, .int (nI j)), (3, .int (nI vb)), (4, .int (nI mm))] := hl
                      refine lv_goto (tgt := 146) hx hb d_R_third_249 rfl ?_
                      exact ih146 _ (by omega) (t3 := t3 + 1) (ff := ff) (g3 := g3) (ls := ls) (H := H) (locs := locs) (hS := hS) (hl := lv_sub hl [4, 5, 6, 7, 8, 1, 0] rfl) (hP := hP) (hD := hD) (hle3 := (by omega)) (hI3 := (ec_I3_keep gS.2.2.1 g12 (fun i hi => (gN i hi).1) (fun i hi => (gN i hi).2) hi hj hij hB.2.1 hB.2.2 hI2n hmij hI3 (fun q => q.1 h159_1))) (hk146 := rfl)
                    · rw [lg_cmp_le] at h234_5
                      exact absurd (by decide) h234_5
                  · exact absurd h194_4 (by decide)
                · refine lv_aload_n hx hb d_R_third_162 rfl (lv_at hl 0 rfl) ?_
                  refine lv_iload_n hx hb d_R_third_163 rfl (lv_at hl 1 rfl) ?_
                  refine lv_iload_n hx hb d_R_third_164 rfl (lv_at hl 2 rfl) ?_
                  refine lv_iload hx hb d_R_third_165 (lv_at hl 6 rfl) ?_
                  refine ec_vSi (C := "ExactMeshModel") (ci := 5) (q := (R_R, T_R, 18)) (q0 := 0) (As := [.int (nI i), .int (nI j), .int (nI t3)]) (rest := []) ⟨hx, hb, hml, hown, htb⟩ (c_R_canBe l dC dI a cI cZ cJ rn rx ry rl rf rt rh gx gy rc w1 w2 w3 rg rk kc kf g3 rest i j t3 g12 gN grl gll (by omega) (by omega) (by omega)) kv_R_canBe hK hP rfl rfl rfl wd_594 ⟨Nat.le_of_ble_eq_true rfl, Nat.le_of_ble_eq_true rfl⟩ ⟨rfl, rfl⟩ rfl hl.1 rfl (Nat.le_of_ble_eq_true rfl) d_R_third_167 ⟨Nat.zero_le _, Nat.zero_le _⟩ (fun r167_1 hr167_1 => ?_)
                  replace hr167_1 : ec_isB r167_1 (ec_can rn (ec_P rx ry) (ec_E rl rf rt) i j t3) := hr167_1
                  refine ec_if_eqB (tgt := 189) hx hb hr167_1 d_R_third_170 rfl (fun h170_1 => ?_) (fun h170_1 => ?_)
                  · refine lv_iconst (v := nI 0) hx hb d_R_third_189 (by decide) ?_
                    refine lv_istore hx hb d_R_third_190 hl (by decide) rfl (fun ls hl => ?_)
                    replace hl : lv_has ls 10 [(7, .int (nI 0)), (0, .ref (a 0)), (1, .int (nI i)), (2, .int (nI j)), (3, .int (nI vb)), (4, .int (nI mm)), (5, .int (nI ff)), (6, .int (nI t3))] := hl
                    refine lv_iload hx hb d_R_third_192 (lv_at hl 0 rfl) ?_
                    refine ec_if_eq (tgt := 227) hx hb d_R_third_194 rfl (by omega) (fun h194_5 => ?_) (fun h194_5 => ?_)
                    · refine lv_lconst (v := 0) hx hb d_R_third_227 (by decide) ?_
                      refine lv_lstore hx hb d_R_third_228 hl (by decide) rfl (fun ls hl => ?_)
                      replace hl : lv_has ls 10 [(8, .long 0), (7, .int (nI 0)), (0, .ref (a 0)), (1, .int (nI i)), (2, .int (nI j)), (3, .int (nI vb)), (4, .int (nI mm)), (5, .int (nI ff)), (6, .int (nI t3))] := hl
                      refine lv_lload hx hb d_R_third_230 (lv_at hl 0 rfl) ?_
                      refine lv_lconst (v := 0) hx hb d_R_third_232 (by decide) ?_
                      refine W.lcmp hx hb d_R_third_233 ?_
                      refine lv_if_le (tgt := 242) hx hb d_R_third_234 rfl (fun h234_6 => ?_) (fun h234_6 => ?_)
                      · rw [lg_cmp_le] at h234_6
                        refine lv_iload hx hb d_R_third_242 (lv_at hl 7 rfl) ?_
                        refine lv_istore hx hb d_R_third_244 hl (by decide) rfl (fun ls hl => ?_)
                        replace hl : lv_has ls 10 [(5, .int (nI ff)), (8, .long 0), (7, .int (nI 0)), (0, .ref (a 0)), (1, .int (nI i)), (2, .int (nI j)), (3, .int (nI vb)), (4, .int (nI mm)), (6, .int (nI t3))] := hl
                        refine ec_iinc (k := 8) hx hb d_R_third_246 hl rfl (by decide) rfl (fun ls hl => ?_)
                        replace hl : lv_has ls 10 [(6, .int (nI (t3 + 1))), (5, .int (nI ff)), (8, .long 0), (7, .int (nI 0)), (0, .ref (a 0)), (1, .int (nI i)), (2, .int (nI j)), (3, .int (nI vb)), (4, .int (nI mm))] := hl
                        refine lv_goto (tgt := 146) hx hb d_R_third_249 rfl ?_
                        exact ih146 _ (by omega) (t3 := t3 + 1) (ff := ff) (g3 := g3) (ls := ls) (H := H) (locs := locs) (hS := hS) (hl := lv_sub hl [4, 5, 6, 7, 8, 1, 0] rfl) (hP := hP) (hD := hD) (hle3 := (by omega)) (hI3 := (ec_I3_keep gS.2.2.1 g12 (fun i hi => (gN i hi).1) (fun i hi => (gN i hi).2) hi hj hij hB.2.1 hB.2.2 hI2n hmij hI3 (fun q => h170_1 q.2.1))) (hk146 := rfl)
                      · rw [lg_cmp_le] at h234_6
                        exact absurd (by decide) h234_6
                    · exact absurd h194_5 (by decide)
                  · refine lv_aload_n hx hb d_R_third_173 rfl (lv_at hl 0 rfl) ?_
                    refine lv_iload_n hx hb d_R_third_174 rfl (lv_at hl 1 rfl) ?_
                    refine lv_iload_n hx hb d_R_third_175 rfl (lv_at hl 2 rfl) ?_
                    refine lv_iload_n hx hb d_R_third_176 rfl (lv_at hl 3 rfl) ?_
                    refine lv_iload hx hb d_R_third_177 (lv_at hl 6 rfl) ?_
                    refine ec_vQi (C := "ExactMeshModel") (ci := 5) (q := (R_R, T_R, 18)) (q0 := 0) (As := [.int (nI i), .int (nI j), .int (nI vb), .int (nI t3)]) (rest := []) ⟨hx, hb, hml, hown, htb⟩ (c_R_circle l dC dI a cI cZ cJ rn rx ry rl rf rt rh gx gy rc w1 w2 w3 rg rk kc kf g3 rest i j vb t3 g12 gN (by omega) (by omega) (by omega) (by omega) A hD) kv_R_circle hK hP rfl rfl rfl hS wd_561 ⟨Nat.le_of_ble_eq_true rfl, Nat.le_of_ble_eq_true rfl⟩ ⟨rfl, rfl⟩ rfl hl.1 rfl (Nat.le_of_ble_eq_true rfl) d_R_third_179 ⟨Nat.zero_le _, Nat.zero_le _⟩ (fun r179_1 ur179_1 H locs hr179_1 hP hS => ?_)
                    replace hr179_1 : r179_1 = ec_sgn (ec_circ rx ry i j vb t3) := hr179_1
                    replace hP : va_P (dC, dI) vwCl (wR a cI cZ cJ rn rx ry rl rf rt rh gx gy rc w1 w2 w3 rg rk kc kf ur179_1 ++ rest) H := hP
                    replace hD : va_D A (wR a cI cZ cJ rn rx ry rl rf rt rh gx gy rc w1 w2 w3 rg rk kc kf ur179_1 ++ rest) := ec_Dk hD rfl
                    subst hr179_1
                    refine lv_if_ne (tgt := 189) hx hb d_R_third_182 rfl (fun h182_1 => ?_) (fun h182_1 => ?_)
                    · refine lv_iconst (v := nI 0) hx hb d_R_third_189 (by decide) ?_
                      refine lv_istore hx hb d_R_third_190 hl (by decide) rfl (fun ls hl => ?_)
                      replace hl : lv_has ls 10 [(7, .int (nI 0)), (0, .ref (a 0)), (1, .int (nI i)), (2, .int (nI j)), (3, .int (nI vb)), (4, .int (nI mm)), (5, .int (nI ff)), (6, .int (nI t3))] := hl
                      refine lv_iload hx hb d_R_third_192 (lv_at hl 0 rfl) ?_
                      refine ec_if_eq (tgt := 227) hx hb d_R_third_194 rfl (by omega) (fun h194_6 => ?_) (fun h194_6 => ?_)
                      · refine lv_lconst (v := 0) hx hb d_R_third_227 (by decide) ?_
                        refine lv_lstore hx hb d_R_third_228 hl (by decide) rfl (fun ls hl => ?_)
                        replace hl : lv_has ls 10 [(8, .long 0), (7, .int (nI 0)), (0, .ref (a 0)), (1, .int (nI i)), (2, .int (nI j)), (3, .int (nI vb)), (4, .int (nI mm)), (5, .int (nI ff)), (6, .int (nI t3))] := hl
                        refine lv_lload hx hb d_R_third_230 (lv_at hl 0 rfl) ?_
                        refine lv_lconst (v := 0) hx hb d_R_third_232 (by decide) ?_
                        refine W.lcmp hx hb d_R_third_233 ?_
                        refine lv_if_le (tgt := 242) hx hb d_R_third_234 rfl (fun h234_7 => ?_) (fun h234_7 => ?_)
                        · rw [lg_cmp_le] at h234_7
                          refine lv_iload hx hb d_R_third_242 (lv_at hl 7 rfl) ?_
                          refine lv_istore hx hb d_R_third_244 hl (by decide) rfl (fun ls hl => ?_)
                          replace hl : lv_has ls 10 [(5, .int (nI ff)), (8, .long 0), (7, .int (nI 0)), (0, .ref (a 0)), (1, .int (nI i)), (2, .int (nI j)), (3, .int (nI vb)), (4, .int (nI mm)), (6, .int (nI t3))] := hl
                          refine ec_iinc (k := 8) hx hb d_R_third_246 hl rfl (by decide) rfl (fun ls hl => ?_)
                          replace hl : lv_has ls 10 [(6, .int (nI (t3 + 1))), (5, .int (nI ff)), (8, .long 0), (7, .int (nI 0)), (0, .ref (a 0)), (1, .int (nI i)), (2, .int (nI j)), (3, .int (nI vb)), (4, .int (nI mm))] := hl
                          refine lv_goto (tgt := 146) hx hb d_R_third_249 rfl ?_
                          exact ih146 _ (by omega) (t3 := t3 + 1) (ff := ff) (g3 := ur179_1) (ls := ls) (H := H) (locs := locs) (hS := hS) (hl := lv_sub hl [4, 5, 6, 7, 8, 1, 0] rfl) (hP := hP) (hD := hD) (hle3 := (by omega)) (hI3 := (ec_I3_keep gS.2.2.1 g12 (fun i hi => (gN i hi).1) (fun i hi => (gN i hi).2) hi hj hij hB.2.1 hB.2.2 hI2n hmij hI3 (fun q => h182_1 ((ec_sgn_eq _).mpr q.2.2.1)))) (hk146 := rfl)
                        · rw [lg_cmp_le] at h234_7
                          exact absurd (by decide) h234_7
                      · exact absurd h194_6 (by decide)
                    · refine lv_iconst (v := nI 1) hx hb d_R_third_185 (by decide) ?_
                      refine lv_goto (tgt := 190) hx hb d_R_third_186 rfl ?_
                      refine lv_istore hx hb d_R_third_190 hl (by decide) rfl (fun ls hl => ?_)
                      replace hl : lv_has ls 10 [(7, .int (nI 1)), (0, .ref (a 0)), (1, .int (nI i)), (2, .int (nI j)), (3, .int (nI vb)), (4, .int (nI mm)), (5, .int (nI ff)), (6, .int (nI t3))] := hl
                      refine lv_iload hx hb d_R_third_192 (lv_at hl 0 rfl) ?_
                      refine ec_if_eq (tgt := 227) hx hb d_R_third_194 rfl (by omega) (fun h194_7 => ?_) (fun h194_7 => ?_)
                      · exact absurd h194_7 (by decide)
                      · refine lv_iload hx hb d_R_third_197 (lv_at hl 5 rfl) ?_
                        refine lv_iload_n hx hb d_R_third_199 rfl (lv_at hl 2 rfl) ?_
                        refine ec_icmp_ne (tgt := 215) hx hb d_R_third_200 rfl (by omega) (by omega) (fun h200_1 => ?_) (fun h200_1 => ?_)
                        · refine lv_aload_n hx hb d_R_third_215 rfl (lv_at hl 1 rfl) ?_
                          refine lv_iload hx hb d_R_third_216 (lv_at hl 7 rfl) ?_
                          refine lv_iload_n hx hb d_R_third_218 rfl (lv_at hl 2 rfl) ?_
                          refine lv_iload hx hb d_R_third_219 (lv_at hl 6 rfl) ?_
                          refine ec_vSl (C := "ExactMeshModel") (ci := 5) (q := (R_R, T_R, 18)) (q0 := 0) (As := [.int (nI t3), .int (nI i), .int (nI ff)]) (rest := []) ⟨hx, hb, hml, hown, htb⟩ (c_R_of l dC dI a cI cZ cJ rn rx ry rl rf rt rh gx gy rc w1 w2 w3 rg rk kc kf ur179_1 rest t3 i ff g12 gN (by omega) (by omega) (by omega)) kv_R_of hK hP rfl rfl rfl wd_541 ⟨Nat.le_of_ble_eq_true rfl, Nat.le_of_ble_eq_true rfl⟩ ⟨rfl, rfl⟩ rfl hl.1 rfl (Nat.le_of_ble_eq_true rfl) d_R_third_221 ⟨Nat.zero_le _, Nat.zero_le _⟩ (fun r221_1 hr221_1 => ?_)
                          replace hr221_1 : r221_1.toInt = ge_ori (ec_P rx ry t3) (ec_P rx ry i) (ec_P rx ry ff) := hr221_1
                          refine lv_goto (tgt := 228) hx hb d_R_third_224 rfl ?_
                          refine lv_lstore hx hb d_R_third_228 hl (by decide) rfl (fun ls hl => ?_)
                          replace hl : lv_has ls 10 [(8, .long r221_1), (7, .int (nI 1)), (0, .ref (a 0)), (1, .int (nI i)), (2, .int (nI j)), (3, .int (nI vb)), (4, .int (nI mm)), (5, .int (nI ff)), (6, .int (nI t3))] := hl
                          refine lv_lload hx hb d_R_third_230 (lv_at hl 0 rfl) ?_
                          refine lv_lconst (v := 0) hx hb d_R_third_232 (by decide) ?_
                          refine W.lcmp hx hb d_R_third_233 ?_
                          refine lv_if_le (tgt := 242) hx hb d_R_third_234 rfl (fun h234_8 => ?_) (fun h234_8 => ?_)
                          · rw [lg_cmp_le] at h234_8
                            refine lv_iload hx hb d_R_third_242 (lv_at hl 7 rfl) ?_
                            refine lv_istore hx hb d_R_third_244 hl (by decide) rfl (fun ls hl => ?_)
                            replace hl : lv_has ls 10 [(5, .int (nI ff)), (8, .long r221_1), (7, .int (nI 1)), (0, .ref (a 0)), (1, .int (nI i)), (2, .int (nI j)), (3, .int (nI vb)), (4, .int (nI mm)), (6, .int (nI t3))] := hl
                            refine ec_iinc (k := 8) hx hb d_R_third_246 hl rfl (by decide) rfl (fun ls hl => ?_)
                            replace hl : lv_has ls 10 [(6, .int (nI (t3 + 1))), (5, .int (nI ff)), (8, .long r221_1), (7, .int (nI 1)), (0, .ref (a 0)), (1, .int (nI i)), (2, .int (nI j)), (3, .int (nI vb)), (4, .int (nI mm))] := hl
                            refine lv_goto (tgt := 146) hx hb d_R_third_249 rfl ?_
                            exact ih146 _ (by omega) (t3 := t3 + 1) (ff := ff) (g3 := ur179_1) (ls := ls) (H := H) (locs := locs) (hS := hS) (hl := lv_sub hl [4, 5, 6, 7, 8, 1, 0] rfl) (hP := hP) (hD := hD) (hle3 := (by omega)) (hI3 := (ec_I3_keep gS.2.2.1 g12 (fun i hi => (gN i hi).1) (fun i hi => (gN i hi).2) hi hj hij hB.2.1 hB.2.2 hI2n hmij hI3 (fun q => by have z := q.2.2.2; rw [ec_bes_b h200_1] at z; exact absurd z (Int.not_lt.mpr (ec_le0 hr221_1 h234_8))))) (hk146 := rfl)
                          · rw [lg_cmp_le] at h234_8
                            refine lv_iload hx hb d_R_third_237 (lv_at hl 8 rfl) ?_
                            refine lv_goto (tgt := 244) hx hb d_R_third_239 rfl ?_
                            refine lv_istore hx hb d_R_third_244 hl (by decide) rfl (fun ls hl => ?_)
                            replace hl : lv_has ls 10 [(5, .int (nI t3)), (8, .long r221_1), (7, .int (nI 1)), (0, .ref (a 0)), (1, .int (nI i)), (2, .int (nI j)), (3, .int (nI vb)), (4, .int (nI mm)), (6, .int (nI t3))] := hl
                            refine ec_iinc (k := 8) hx hb d_R_third_246 hl rfl (by decide) rfl (fun ls hl => ?_)
                            replace hl : lv_has ls 10 [(6, .int (nI (t3 + 1))), (5, .int (nI t3)), (8, .long r221_1), (7, .int (nI 1)), (0, .ref (a 0)), (1, .int (nI i)), (2, .int (nI j)), (3, .int (nI vb)), (4, .int (nI mm))] := hl
                            refine lv_goto (tgt := 146) hx hb d_R_third_249 rfl ?_
                            exact ih146 _ (by omega) (t3 := t3 + 1) (ff := t3) (g3 := ur179_1) (ls := ls) (H := H) (locs := locs) (hS := hS) (hl := lv_sub hl [4, 5, 6, 7, 8, 1, 0] rfl) (hP := hP) (hD := hD) (hle3 := (by omega)) (hI3 := (ec_I3_take gS.2.2.1 g12 (fun i hi => (gN i hi).1) (fun i hi => (gN i hi).2) hi hj hij hB.2.1 hB.2.2 hI2n hmij hI3 h152_1 h170_1 ((ec_sgn_eq _).mp h182_1) (by rw [ec_bes_b h200_1]; exact ec_gt0 hr221_1 h234_8))) (hk146 := rfl)
                        · refine lv_aload_n hx hb d_R_third_203 rfl (lv_at hl 1 rfl) ?_
                          refine lv_iload_n hx hb d_R_third_204 rfl (lv_at hl 3 rfl) ?_
                          refine lv_iload hx hb d_R_third_205 (lv_at hl 7 rfl) ?_
                          refine lv_iload hx hb d_R_third_207 (lv_at hl 6 rfl) ?_
                          refine ec_vSl (C := "ExactMeshModel") (ci := 5) (q := (R_R, T_R, 18)) (q0 := 0) (As := [.int (nI j), .int (nI t3), .int (nI ff)]) (rest := []) ⟨hx, hb, hml, hown, htb⟩ (c_R_of l dC dI a cI cZ cJ rn rx ry rl rf rt rh gx gy rc w1 w2 w3 rg rk kc kf ur179_1 rest j t3 ff g12 gN (by omega) (by omega) (by omega)) kv_R_of hK hP rfl rfl rfl wd_541 ⟨Nat.le_of_ble_eq_true rfl, Nat.le_of_ble_eq_true rfl⟩ ⟨rfl, rfl⟩ rfl hl.1 rfl (Nat.le_of_ble_eq_true rfl) d_R_third_209 ⟨Nat.zero_le _, Nat.zero_le _⟩ (fun r209_1 hr209_1 => ?_)
                          replace hr209_1 : r209_1.toInt = ge_ori (ec_P rx ry j) (ec_P rx ry t3) (ec_P rx ry ff) := hr209_1
                          refine lv_goto (tgt := 228) hx hb d_R_third_212 rfl ?_
                          refine lv_lstore hx hb d_R_third_228 hl (by decide) rfl (fun ls hl => ?_)
                          replace hl : lv_has ls 10 [(8, .long r209_1), (7, .int (nI 1)), (0, .ref (a 0)), (1, .int (nI i)), (2, .int (nI j)), (3, .int (nI vb)), (4, .int (nI mm)), (5, .int (nI ff)), (6, .int (nI t3))] := hl
                          refine lv_lload hx hb d_R_third_230 (lv_at hl 0 rfl) ?_
                          refine lv_lconst (v := 0) hx hb d_R_third_232 (by decide) ?_
                          refine W.lcmp hx hb d_R_third_233 ?_
                          refine lv_if_le (tgt := 242) hx hb d_R_third_234 rfl (fun h234_9 => ?_) (fun h234_9 => ?_)
                          · rw [lg_cmp_le] at h234_9
                            refine lv_iload hx hb d_R_third_242 (lv_at hl 7 rfl) ?_
                            refine lv_istore hx hb d_R_third_244 hl (by decide) rfl (fun ls hl => ?_)
                            replace hl : lv_has ls 10 [(5, .int (nI ff)), (8, .long r209_1), (7, .int (nI 1)), (0, .ref (a 0)), (1, .int (nI i)), (2, .int (nI j)), (3, .int (nI vb)), (4, .int (nI mm)), (6, .int (nI t3))] := hl
                            refine ec_iinc (k := 8) hx hb d_R_third_246 hl rfl (by decide) rfl (fun ls hl => ?_)
                            replace hl : lv_has ls 10 [(6, .int (nI (t3 + 1))), (5, .int (nI ff)), (8, .long r209_1), (7, .int (nI 1)), (0, .ref (a 0)), (1, .int (nI i)), (2, .int (nI j)), (3, .int (nI vb)), (4, .int (nI mm))] := hl
                            refine lv_goto (tgt := 146) hx hb d_R_third_249 rfl ?_
                            exact ih146 _ (by omega) (t3 := t3 + 1) (ff := ff) (g3 := ur179_1) (ls := ls) (H := H) (locs := locs) (hS := hS) (hl := lv_sub hl [4, 5, 6, 7, 8, 1, 0] rfl) (hP := hP) (hD := hD) (hle3 := (by omega)) (hI3 := (ec_I3_keep gS.2.2.1 g12 (fun i hi => (gN i hi).1) (fun i hi => (gN i hi).2) hi hj hij hB.2.1 hB.2.2 hI2n hmij hI3 (fun q => by have z := q.2.2.2; rw [ec_bes_a h200_1] at z; exact absurd z (Int.not_lt.mpr (ec_le0 hr209_1 h234_9))))) (hk146 := rfl)
                          · rw [lg_cmp_le] at h234_9
                            refine lv_iload hx hb d_R_third_237 (lv_at hl 8 rfl) ?_
                            refine lv_goto (tgt := 244) hx hb d_R_third_239 rfl ?_
                            refine lv_istore hx hb d_R_third_244 hl (by decide) rfl (fun ls hl => ?_)
                            replace hl : lv_has ls 10 [(5, .int (nI t3)), (8, .long r209_1), (7, .int (nI 1)), (0, .ref (a 0)), (1, .int (nI i)), (2, .int (nI j)), (3, .int (nI vb)), (4, .int (nI mm)), (6, .int (nI t3))] := hl
                            refine ec_iinc (k := 8) hx hb d_R_third_246 hl rfl (by decide) rfl (fun ls hl => ?_)
                            replace hl : lv_has ls 10 [(6, .int (nI (t3 + 1))), (5, .int (nI t3)), (8, .long r209_1), (7, .int (nI 1)), (0, .ref (a 0)), (1, .int (nI i)), (2, .int (nI j)), (3, .int (nI vb)), (4, .int (nI mm))] := hl
                            refine lv_goto (tgt := 146) hx hb d_R_third_249 rfl ?_
                            exact ih146 _ (by omega) (t3 := t3 + 1) (ff := t3) (g3 := ur179_1) (ls := ls) (H := H) (locs := locs) (hS := hS) (hl := lv_sub hl [4, 5, 6, 7, 8, 1, 0] rfl) (hP := hP) (hD := hD) (hle3 := (by omega)) (hI3 := (ec_I3_take gS.2.2.1 g12 (fun i hi => (gN i hi).1) (fun i hi => (gN i hi).2) hi hj hij hB.2.1 hB.2.2 hI2n hmij hI3 h152_1 h170_1 ((ec_sgn_eq _).mp h182_1) (by rw [ec_bes_a h200_1]; exact ec_gt0 hr209_1 h234_9))) (hk146 := rfl)
            · refine lv_iload hx hb d_R_third_137 (lv_at hl 4 rfl) ?_
              exact W.iret hx hb hr (fun tS ht hW => ⟨⟨_, g2, rfl, ⟨some mm, rfl, ec_thd_2 gS.2.2.1 g12 (fun i hi => (gN i hi).1) (fun i hi => (gN i hi).2) hi hj hB hI2 hle2 h77 h128 h134⟩, by show va_P _ _ _ tS.heap; rw [ht]; exact hP⟩, hS.F ht⟩) hS.2.2 d_R_third_139
        · refine lv_iload hx hb d_R_third_80 (lv_at hl 5 rfl) ?_
          refine lv_iload hx hb d_R_third_82 (lv_at hl 4 rfl) ?_
          refine ec_icmp_ge (tgt := 115) hx hb d_R_third_84 rfl (by omega) (by omega) (fun h84 => ?_) (fun h84 => ?_)
          · refine lv_iload hx hb d_R_third_115 (lv_at hl 4 rfl) ?_
            refine lv_istore hx hb d_R_third_117 hl (by decide) rfl (fun ls hl => ?_)
            replace hl : lv_has ls 10 [(4, .int (nI mm)), (0, .ref (a 0)), (1, .int (nI i)), (2, .int (nI j)), (3, .int (nI vb)), (5, .int (nI t2))] := hl
            refine ec_iinc (k := 5) hx hb d_R_third_119 hl rfl (by decide) rfl (fun ls hl => ?_)
            replace hl : lv_has ls 10 [(5, .int (nI (t2 + 1))), (4, .int (nI mm)), (0, .ref (a 0)), (1, .int (nI i)), (2, .int (nI j)), (3, .int (nI vb))] := hl
            refine lv_goto (tgt := 71) hx hb d_R_third_122 rfl ?_
            exact ih71 _ (by omega) (t2 := t2 + 1) (mm := mm) (g2 := g2) (ls := ls) (H := H) (locs := locs) (hS := hS) (hl := lv_sub hl [2, 3, 4, 5, 1, 0] rfl) (hP := hP) (hD := hD) (hle2 := (by omega)) (hmm := (by omega)) (hI2 := (ec_I2_keep hI2 (fun q => by have := q.1; omega))) (hk71 := rfl)
          · refine lv_aload_n hx hb d_R_third_87 rfl (lv_at hl 0 rfl) ?_
            refine lv_iload_n hx hb d_R_third_88 rfl (lv_at hl 1 rfl) ?_
            refine lv_iload_n hx hb d_R_third_89 rfl (lv_at hl 2 rfl) ?_
            refine lv_iload hx hb d_R_third_90 (lv_at hl 5 rfl) ?_
            refine ec_vSi (C := "ExactMeshModel") (ci := 5) (q := (R_R, T_R, 18)) (q0 := 0) (As := [.int (nI i), .int (nI j), .int (nI t2)]) (rest := []) ⟨hx, hb, hml, hown, htb⟩ (c_R_canBe l dC dI a cI cZ cJ rn rx ry rl rf rt rh gx gy rc w1 w2 w3 rg rk kc kf g2 rest i j t2 g12 gN grl gll (by omega) (by omega) (by omega)) kv_R_canBe hK hP rfl rfl rfl wd_594 ⟨Nat.le_of_ble_eq_true rfl, Nat.le_of_ble_eq_true rfl⟩ ⟨rfl, rfl⟩ rfl hl.1 rfl (Nat.le_of_ble_eq_true rfl) d_R_third_92 ⟨Nat.zero_le _, Nat.zero_le _⟩ (fun r92 hr92 => ?_)
            replace hr92 : ec_isB r92 (ec_can rn (ec_P rx ry) (ec_E rl rf rt) i j t2) := hr92
            refine ec_if_eqB (tgt := 115) hx hb hr92 d_R_third_95 rfl (fun h95 => ?_) (fun h95 => ?_)
            · refine lv_iload hx hb d_R_third_115 (lv_at hl 4 rfl) ?_
              refine lv_istore hx hb d_R_third_117 hl (by decide) rfl (fun ls hl => ?_)
              replace hl : lv_has ls 10 [(4, .int (nI mm)), (0, .ref (a 0)), (1, .int (nI i)), (2, .int (nI j)), (3, .int (nI vb)), (5, .int (nI t2))] := hl
              refine ec_iinc (k := 5) hx hb d_R_third_119 hl rfl (by decide) rfl (fun ls hl => ?_)
              replace hl : lv_has ls 10 [(5, .int (nI (t2 + 1))), (4, .int (nI mm)), (0, .ref (a 0)), (1, .int (nI i)), (2, .int (nI j)), (3, .int (nI vb))] := hl
              refine lv_goto (tgt := 71) hx hb d_R_third_122 rfl ?_
              exact ih71 _ (by omega) (t2 := t2 + 1) (mm := mm) (g2 := g2) (ls := ls) (H := H) (locs := locs) (hS := hS) (hl := lv_sub hl [2, 3, 4, 5, 1, 0] rfl) (hP := hP) (hD := hD) (hle2 := (by omega)) (hmm := (by omega)) (hI2 := (ec_I2_keep hI2 (fun q => h95 q.2.1))) (hk71 := rfl)
            · refine lv_aload_n hx hb d_R_third_98 rfl (lv_at hl 0 rfl) ?_
              refine lv_iload_n hx hb d_R_third_99 rfl (lv_at hl 1 rfl) ?_
              refine lv_iload_n hx hb d_R_third_100 rfl (lv_at hl 2 rfl) ?_
              refine lv_iload_n hx hb d_R_third_101 rfl (lv_at hl 3 rfl) ?_
              refine lv_iload hx hb d_R_third_102 (lv_at hl 5 rfl) ?_
              refine ec_vQi (C := "ExactMeshModel") (ci := 5) (q := (R_R, T_R, 18)) (q0 := 0) (As := [.int (nI i), .int (nI j), .int (nI vb), .int (nI t2)]) (rest := []) ⟨hx, hb, hml, hown, htb⟩ (c_R_circle l dC dI a cI cZ cJ rn rx ry rl rf rt rh gx gy rc w1 w2 w3 rg rk kc kf g2 rest i j vb t2 g12 gN (by omega) (by omega) (by omega) (by omega) A hD) kv_R_circle hK hP rfl rfl rfl hS wd_561 ⟨Nat.le_of_ble_eq_true rfl, Nat.le_of_ble_eq_true rfl⟩ ⟨rfl, rfl⟩ rfl hl.1 rfl (Nat.le_of_ble_eq_true rfl) d_R_third_104 ⟨Nat.zero_le _, Nat.zero_le _⟩ (fun r104 ur104 H locs hr104 hP hS => ?_)
              replace hr104 : r104 = ec_sgn (ec_circ rx ry i j vb t2) := hr104
              replace hP : va_P (dC, dI) vwCl (wR a cI cZ cJ rn rx ry rl rf rt rh gx gy rc w1 w2 w3 rg rk kc kf ur104 ++ rest) H := hP
              replace hD : va_D A (wR a cI cZ cJ rn rx ry rl rf rt rh gx gy rc w1 w2 w3 rg rk kc kf ur104 ++ rest) := ec_Dk hD rfl
              subst hr104
              refine lv_if_ne (tgt := 115) hx hb d_R_third_107 rfl (fun h107 => ?_) (fun h107 => ?_)
              · refine lv_iload hx hb d_R_third_115 (lv_at hl 4 rfl) ?_
                refine lv_istore hx hb d_R_third_117 hl (by decide) rfl (fun ls hl => ?_)
                replace hl : lv_has ls 10 [(4, .int (nI mm)), (0, .ref (a 0)), (1, .int (nI i)), (2, .int (nI j)), (3, .int (nI vb)), (5, .int (nI t2))] := hl
                refine ec_iinc (k := 5) hx hb d_R_third_119 hl rfl (by decide) rfl (fun ls hl => ?_)
                replace hl : lv_has ls 10 [(5, .int (nI (t2 + 1))), (4, .int (nI mm)), (0, .ref (a 0)), (1, .int (nI i)), (2, .int (nI j)), (3, .int (nI vb))] := hl
                refine lv_goto (tgt := 71) hx hb d_R_third_122 rfl ?_
                exact ih71 _ (by omega) (t2 := t2 + 1) (mm := mm) (g2 := ur104) (ls := ls) (H := H) (locs := locs) (hS := hS) (hl := lv_sub hl [2, 3, 4, 5, 1, 0] rfl) (hP := hP) (hD := hD) (hle2 := (by omega)) (hmm := (by omega)) (hI2 := (ec_I2_keep hI2 (fun q => h107 ((ec_sgn_eq _).mpr q.2.2)))) (hk71 := rfl)
              · refine lv_iload hx hb d_R_third_110 (lv_at hl 5 rfl) ?_
                refine lv_goto (tgt := 117) hx hb d_R_third_112 rfl ?_
                refine lv_istore hx hb d_R_third_117 hl (by decide) rfl (fun ls hl => ?_)
                replace hl : lv_has ls 10 [(4, .int (nI t2)), (0, .ref (a 0)), (1, .int (nI i)), (2, .int (nI j)), (3, .int (nI vb)), (5, .int (nI t2))] := hl
                refine ec_iinc (k := 5) hx hb d_R_third_119 hl rfl (by decide) rfl (fun ls hl => ?_)
                replace hl : lv_has ls 10 [(5, .int (nI (t2 + 1))), (4, .int (nI t2)), (0, .ref (a 0)), (1, .int (nI i)), (2, .int (nI j)), (3, .int (nI vb))] := hl
                refine lv_goto (tgt := 71) hx hb d_R_third_122 rfl ?_
                exact ih71 _ (by omega) (t2 := t2 + 1) (mm := t2) (g2 := ur104) (ls := ls) (H := H) (locs := locs) (hS := hS) (hl := lv_sub hl [2, 3, 4, 5, 1, 0] rfl) (hP := hP) (hD := hD) (hle2 := (by omega)) (hmm := (by omega)) (hI2 := (ec_I2_take hI2 h77 (by omega) h95 ((ec_sgn_eq _).mp h107))) (hk71 := rfl)
      · refine lv_iload_n hx hb d_R_third_61 rfl (lv_at hl 1 rfl) ?_
        refine lv_goto (tgt := 66) hx hb d_R_third_62 rfl ?_
        refine lv_istore hx hb d_R_third_66 hl (by decide) rfl (fun ls hl => ?_)
        replace hl : lv_has ls 10 [(4, .int (nI i)), (0, .ref (a 0)), (1, .int (nI i)), (2, .int (nI j)), (3, .int (nI vb))] := hl
        refine lv_iconst (v := nI 0) hx hb d_R_third_68 (by decide) ?_
        refine lv_istore hx hb d_R_third_69 hl (by decide) rfl (fun ls hl => ?_)
        replace hl : lv_has ls 10 [(5, .int (nI 0)), (4, .int (nI i)), (0, .ref (a 0)), (1, .int (nI i)), (2, .int (nI j)), (3, .int (nI vb))] := hl
        obtain ⟨t2, e_t2⟩ : ∃ z : Nat, z = 0 := ⟨_, rfl⟩
        obtain ⟨mm, e_mm⟩ : ∃ z : Nat, z = i := ⟨_, rfl⟩
        obtain ⟨g2, e_g2⟩ : ∃ z : Nat → Int64, z = g := ⟨_, rfl⟩
        replace hl : lv_has ls 10 [(0, .ref (a 0)), (1, .int (nI i)), (2, .int (nI j)), (3, .int (nI vb)), (4, .int (nI mm)), (5, .int (nI t2))] := by (try simp only [e_t2, e_mm, e_g2]); exact lv_sub hl [2, 3, 4, 5, 1, 0] rfl
        replace hP : va_P (dC, dI) vwCl (wR a cI cZ cJ rn rx ry rl rf rt rh gx gy rc w1 w2 w3 rg rk kc kf g2 ++ rest) H := by (try simp only [e_t2, e_mm, e_g2]); exact hP
        replace hD : va_D A (wR a cI cZ cJ rn rx ry rl rf rt rh gx gy rc w1 w2 w3 rg rk kc kf g2 ++ rest) := ec_Dk hD rfl
        have hle2 : t2 ≤ rn := by omega
        have hmm : mm < 12 := by omega
        have hI2 : ec_I2 rn (fun i => (rx i).toInt) (fun i => (ry i).toInt) (ec_E rl rf rt) i j vb t2 mm := by simp only [e_t2, e_mm]; first | exact ec_I2_a h58 | exact ec_I2_b h58
        clear e_g2 e_mm e_t2
        generalize hk71 : rn - t2 = k71
        induction k71 using Nat.strongRecOn generalizing t2 mm g2 ls H locs with
        | ind k71 ih71 =>
        refine lv_iload hx hb d_R_third_71 (lv_at hl 5 rfl) ?_
        refine lv_aload_n hx hb d_R_third_73 rfl (lv_at hl 0 rfl) ?_
        refine va_get (D := (dC, dI)) (ci := 5) (v := .int (nI rn)) (C := R_R) (T := T_R) (N := 18) hx hb htb in_R hown hK hP 0 rfl rfl 0 (by decide) (htb _ wd_449) (fun _ h9 => h9) rfl d_R_third_74 ?_
        refine ec_icmp_ge (tgt := 125) hx hb d_R_third_77 rfl (by omega) (by omega) (fun h77_1 => ?_) (fun h77_1 => ?_)
        · refine lv_iload hx hb d_R_third_125 (lv_at hl 4 rfl) ?_
          refine lv_iload_n hx hb d_R_third_127 rfl (lv_at hl 1 rfl) ?_
          refine ec_icmp_eq (tgt := 140) hx hb d_R_third_128 rfl (by omega) (by omega) (fun h128_1 => ?_) (fun h128_1 => ?_)
          · have hmij : mm = i ∨ mm = j := Or.inl h128_1
            have hI2n := ec_I2_c hI2 (show t2 = rn by omega)
            refine lv_iload_n hx hb d_R_third_140 rfl (lv_at hl 3 rfl) ?_
            refine lv_istore hx hb d_R_third_141 hl (by decide) rfl (fun ls hl => ?_)
            replace hl : lv_has ls 10 [(5, .int (nI vb)), (0, .ref (a 0)), (1, .int (nI i)), (2, .int (nI j)), (3, .int (nI vb)), (4, .int (nI mm))] := hl
            refine lv_iconst (v := nI 0) hx hb d_R_third_143 (by decide) ?_
            refine lv_istore hx hb d_R_third_144 hl (by decide) rfl (fun ls hl => ?_)
            replace hl : lv_has ls 10 [(6, .int (nI 0)), (5, .int (nI vb)), (0, .ref (a 0)), (1, .int (nI i)), (2, .int (nI j)), (3, .int (nI vb)), (4, .int (nI mm))] := hl
            obtain ⟨t3, e_t3⟩ : ∃ z : Nat, z = 0 := ⟨_, rfl⟩
            obtain ⟨ff, e_ff⟩ : ∃ z : Nat, z = vb := ⟨_, rfl⟩
            obtain ⟨g3, e_g3⟩ : ∃ z : Nat → Int64, z = g2 := ⟨_, rfl⟩
            replace hl : lv_has ls 10 [(0, .ref (a 0)), (1, .int (nI i)), (2, .int (nI j)), (3, .int (nI vb)), (4, .int (nI mm)), (5, .int (nI ff)), (6, .int (nI t3))] := by (try simp only [e_t3, e_ff, e_g3]); exact lv_sub hl [2, 3, 4, 5, 6, 1, 0] rfl
            replace hP : va_P (dC, dI) vwCl (wR a cI cZ cJ rn rx ry rl rf rt rh gx gy rc w1 w2 w3 rg rk kc kf g3 ++ rest) H := by (try simp only [e_t3, e_ff, e_g3]); exact hP
            replace hD : va_D A (wR a cI cZ cJ rn rx ry rl rf rt rh gx gy rc w1 w2 w3 rg rk kc kf g3 ++ rest) := ec_Dk hD rfl
            have hle3 : t3 ≤ rn := by omega
            have hI3 : ec_I3 rn (fun i => (rx i).toInt) (fun i => (ry i).toInt) (ec_E rl rf rt) i j vb t3 ff := by simp only [e_t3, e_ff]; exact ec_I3_0 hB.1 hB.2.1
            clear e_g3 e_ff e_t3
            generalize hk146 : rn - t3 = k146
            induction k146 using Nat.strongRecOn generalizing t3 ff g3 ls H locs with
            | ind k146 ih146 =>
            refine lv_iload hx hb d_R_third_146 (lv_at hl 6 rfl) ?_
            refine lv_aload_n hx hb d_R_third_148 rfl (lv_at hl 0 rfl) ?_
            refine va_get (D := (dC, dI)) (ci := 5) (v := .int (nI rn)) (C := R_R) (T := T_R) (N := 18) hx hb htb in_R hown hK hP 0 rfl rfl 0 (by decide) (htb _ wd_449) (fun _ h9 => h9) rfl d_R_third_149 ?_
            refine ec_icmp_ge (tgt := 252) hx hb d_R_third_152 rfl (by omega) (by omega) (fun h152_2 => ?_) (fun h152_2 => ?_)
            · refine lv_iload hx hb d_R_third_252 (lv_at hl 5 rfl) ?_
              exact W.iret hx hb hr (fun tS ht hW => ⟨⟨_, g3, rfl, ⟨some ff, rfl, ec_thd_3 hI3 h152_2⟩, by show va_P _ _ _ tS.heap; rw [ht]; exact hP⟩, hS.F ht⟩) hS.2.2 d_R_third_254
            · have hff := hI3.1
              refine lv_iload hx hb d_R_third_155 (lv_at hl 6 rfl) ?_
              refine lv_iload hx hb d_R_third_157 (lv_at hl 5 rfl) ?_
              refine ec_icmp_eq (tgt := 189) hx hb d_R_third_159 rfl (by omega) (by omega) (fun h159_2 => ?_) (fun h159_2 => ?_)
              · refine lv_iconst (v := nI 0) hx hb d_R_third_189 (by decide) ?_
                refine lv_istore hx hb d_R_third_190 hl (by decide) rfl (fun ls hl => ?_)
                replace hl : lv_has ls 10 [(7, .int (nI 0)), (0, .ref (a 0)), (1, .int (nI i)), (2, .int (nI j)), (3, .int (nI vb)), (4, .int (nI mm)), (5, .int (nI ff)), (6, .int (nI t3))] := hl
                refine lv_iload hx hb d_R_third_192 (lv_at hl 0 rfl) ?_
                refine ec_if_eq (tgt := 227) hx hb d_R_third_194 rfl (by omega) (fun h194_8 => ?_) (fun h194_8 => ?_)
                · refine lv_lconst (v := 0) hx hb d_R_third_227 (by decide) ?_
                  refine lv_lstore hx hb d_R_third_228 hl (by decide) rfl (fun ls hl => ?_)
                  replace hl : lv_has ls 10 [(8, .long 0), (7, .int (nI 0)), (0, .ref (a 0)), (1, .int (nI i)), (2, .int (nI j)), (3, .int (nI vb)), (4, .int (nI mm)), (5, .int (nI ff)), (6, .int (nI t3))] := hl
                  refine lv_lload hx hb d_R_third_230 (lv_at hl 0 rfl) ?_
                  refine lv_lconst (v := 0) hx hb d_R_third_232 (by decide) ?_
                  refine W.lcmp hx hb d_R_third_233 ?_
                  refine lv_if_le (tgt := 242) hx hb d_R_third_234 rfl (fun h234_10 => ?_) (fun h234_10 => ?_)
                  · rw [lg_cmp_le] at h234_10
                    refine lv_iload hx hb d_R_third_242 (lv_at hl 7 rfl) ?_
                    refine lv_istore hx hb d_R_third_244 hl (by decide) rfl (fun ls hl => ?_)
                    replace hl : lv_has ls 10 [(5, .int (nI ff)), (8, .long 0), (7, .int (nI 0)), (0, .ref (a 0)), (1, .int (nI i)), (2, .int (nI j)), (3, .int (nI vb)), (4, .int (nI mm)), (6, .int (nI t3))] := hl
                    refine ec_iinc (k := 8) hx hb d_R_third_246 hl rfl (by decide) rfl (fun ls hl => ?_)
                    replace hl : lv_has ls 10 [(6, .int (nI (t3 + 1))), (5, .int (nI ff)), (8, .long 0), (7, .int (nI 0)), (0, .ref (a 0)), (1, .int (nI i)), (2, .int (nI j)), (3, .int (nI vb)), (4, .int (nI mm))] := hl
                    refine lv_goto (tgt := 146) hx hb d_R_third_249 rfl ?_
                    exact ih146 _ (by omega) (t3 := t3 + 1) (ff := ff) (g3 := g3) (ls := ls) (H := H) (locs := locs) (hS := hS) (hl := lv_sub hl [4, 5, 6, 7, 8, 1, 0] rfl) (hP := hP) (hD := hD) (hle3 := (by omega)) (hI3 := (ec_I3_keep gS.2.2.1 g12 (fun i hi => (gN i hi).1) (fun i hi => (gN i hi).2) hi hj hij hB.2.1 hB.2.2 hI2n hmij hI3 (fun q => q.1 h159_2))) (hk146 := rfl)
                  · rw [lg_cmp_le] at h234_10
                    exact absurd (by decide) h234_10
                · exact absurd h194_8 (by decide)
              · refine lv_aload_n hx hb d_R_third_162 rfl (lv_at hl 0 rfl) ?_
                refine lv_iload_n hx hb d_R_third_163 rfl (lv_at hl 1 rfl) ?_
                refine lv_iload_n hx hb d_R_third_164 rfl (lv_at hl 2 rfl) ?_
                refine lv_iload hx hb d_R_third_165 (lv_at hl 6 rfl) ?_
                refine ec_vSi (C := "ExactMeshModel") (ci := 5) (q := (R_R, T_R, 18)) (q0 := 0) (As := [.int (nI i), .int (nI j), .int (nI t3)]) (rest := []) ⟨hx, hb, hml, hown, htb⟩ (c_R_canBe l dC dI a cI cZ cJ rn rx ry rl rf rt rh gx gy rc w1 w2 w3 rg rk kc kf g3 rest i j t3 g12 gN grl gll (by omega) (by omega) (by omega)) kv_R_canBe hK hP rfl rfl rfl wd_594 ⟨Nat.le_of_ble_eq_true rfl, Nat.le_of_ble_eq_true rfl⟩ ⟨rfl, rfl⟩ rfl hl.1 rfl (Nat.le_of_ble_eq_true rfl) d_R_third_167 ⟨Nat.zero_le _, Nat.zero_le _⟩ (fun r167_2 hr167_2 => ?_)
                replace hr167_2 : ec_isB r167_2 (ec_can rn (ec_P rx ry) (ec_E rl rf rt) i j t3) := hr167_2
                refine ec_if_eqB (tgt := 189) hx hb hr167_2 d_R_third_170 rfl (fun h170_2 => ?_) (fun h170_2 => ?_)
                · refine lv_iconst (v := nI 0) hx hb d_R_third_189 (by decide) ?_
                  refine lv_istore hx hb d_R_third_190 hl (by decide) rfl (fun ls hl => ?_)
                  replace hl : lv_has ls 10 [(7, .int (nI 0)), (0, .ref (a 0)), (1, .int (nI i)), (2, .int (nI j)), (3, .int (nI vb)), (4, .int (nI mm)), (5, .int (nI ff)), (6, .int (nI t3))] := hl
                  refine lv_iload hx hb d_R_third_192 (lv_at hl 0 rfl) ?_
                  refine ec_if_eq (tgt := 227) hx hb d_R_third_194 rfl (by omega) (fun h194_9 => ?_) (fun h194_9 => ?_)
                  · refine lv_lconst (v := 0) hx hb d_R_third_227 (by decide) ?_
                    refine lv_lstore hx hb d_R_third_228 hl (by decide) rfl (fun ls hl => ?_)
                    replace hl : lv_has ls 10 [(8, .long 0), (7, .int (nI 0)), (0, .ref (a 0)), (1, .int (nI i)), (2, .int (nI j)), (3, .int (nI vb)), (4, .int (nI mm)), (5, .int (nI ff)), (6, .int (nI t3))] := hl
                    refine lv_lload hx hb d_R_third_230 (lv_at hl 0 rfl) ?_
                    refine lv_lconst (v := 0) hx hb d_R_third_232 (by decide) ?_
                    refine W.lcmp hx hb d_R_third_233 ?_
                    refine lv_if_le (tgt := 242) hx hb d_R_third_234 rfl (fun h234_11 => ?_) (fun h234_11 => ?_)
                    · rw [lg_cmp_le] at h234_11
                      refine lv_iload hx hb d_R_third_242 (lv_at hl 7 rfl) ?_
                      refine lv_istore hx hb d_R_third_244 hl (by decide) rfl (fun ls hl => ?_)
                      replace hl : lv_has ls 10 [(5, .int (nI ff)), (8, .long 0), (7, .int (nI 0)), (0, .ref (a 0)), (1, .int (nI i)), (2, .int (nI j)), (3, .int (nI vb)), (4, .int (nI mm)), (6, .int (nI t3))] := hl
                      refine ec_iinc (k := 8) hx hb d_R_third_246 hl rfl (by decide) rfl (fun ls hl => ?_)
                      replace hl : lv_has ls 10 [(6, .int (nI (t3 + 1))), (5, .int (nI ff)), (8, .long 0), (7, .int (nI 0)), (0, .ref (a 0)), (1, .int (nI i)), (2, .int (nI j)), (3, .int (nI vb)), (4, .int (nI mm))] := hl
                      refine lv_goto (tgt := 146) hx hb d_R_third_249 rfl ?_
                      exact ih146 _ (by omega) (t3 := t3 + 1) (ff := ff) (g3 := g3) (ls := ls) (H := H) (locs := locs) (hS := hS) (hl := lv_sub hl [4, 5, 6, 7, 8, 1, 0] rfl) (hP := hP) (hD := hD) (hle3 := (by omega)) (hI3 := (ec_I3_keep gS.2.2.1 g12 (fun i hi => (gN i hi).1) (fun i hi => (gN i hi).2) hi hj hij hB.2.1 hB.2.2 hI2n hmij hI3 (fun q => h170_2 q.2.1))) (hk146 := rfl)
                    · rw [lg_cmp_le] at h234_11
                      exact absurd (by decide) h234_11
                  · exact absurd h194_9 (by decide)
                · refine lv_aload_n hx hb d_R_third_173 rfl (lv_at hl 0 rfl) ?_
                  refine lv_iload_n hx hb d_R_third_174 rfl (lv_at hl 1 rfl) ?_
                  refine lv_iload_n hx hb d_R_third_175 rfl (lv_at hl 2 rfl) ?_
                  refine lv_iload_n hx hb d_R_third_176 rfl (lv_at hl 3 rfl) ?_
                  refine lv_iload hx hb d_R_third_177 (lv_at hl 6 rfl) ?_
                  refine ec_vQi (C := "ExactMeshModel") (ci := 5) (q := (R_R, T_R, 18)) (q0 := 0) (As := [.int (nI i), .int (nI j), .int (nI vb), .int (nI t3)]) (rest := []) ⟨hx, hb, hml, hown, htb⟩ (c_R_circle l dC dI a cI cZ cJ rn rx ry rl rf rt rh gx gy rc w1 w2 w3 rg rk kc kf g3 rest i j vb t3 g12 gN (by omega) (by omega) (by omega) (by omega) A hD) kv_R_circle hK hP rfl rfl rfl hS wd_561 ⟨Nat.le_of_ble_eq_true rfl, Nat.le_of_ble_eq_true rfl⟩ ⟨rfl, rfl⟩ rfl hl.1 rfl (Nat.le_of_ble_eq_true rfl) d_R_third_179 ⟨Nat.zero_le _, Nat.zero_le _⟩ (fun r179_2 ur179_2 H locs hr179_2 hP hS => ?_)
                  replace hr179_2 : r179_2 = ec_sgn (ec_circ rx ry i j vb t3) := hr179_2
                  replace hP : va_P (dC, dI) vwCl (wR a cI cZ cJ rn rx ry rl rf rt rh gx gy rc w1 w2 w3 rg rk kc kf ur179_2 ++ rest) H := hP
                  replace hD : va_D A (wR a cI cZ cJ rn rx ry rl rf rt rh gx gy rc w1 w2 w3 rg rk kc kf ur179_2 ++ rest) := ec_Dk hD rfl
                  subst hr179_2
                  refine lv_if_ne (tgt := 189) hx hb d_R_third_182 rfl (fun h182_2 => ?_) (fun h182_2 => ?_)
                  · refine lv_iconst (v := nI 0) hx hb d_R_third_189 (by decide) ?_
                    refine lv_istore hx hb d_R_third_190 hl (by decide) rfl (fun ls hl => ?_)
                    replace hl : lv_has ls 10 [(7, .int (nI 0)), (0, .ref (a 0)), (1, .int (nI i)), (2, .int (nI j)), (3, .int (nI vb)), (4, .int (nI mm)), (5, .int (nI ff)), (6, .int (nI t3))] := hl
                    refine lv_iload hx hb d_R_third_192 (lv_at hl 0 rfl) ?_
                    refine ec_if_eq (tgt := 227) hx hb d_R_third_194 rfl (by omega) (fun h194_10 => ?_) (fun h194_10 => ?_)
                    · refine lv_lconst (v := 0) hx hb d_R_third_227 (by decide) ?_
                      refine lv_lstore hx hb d_R_third_228 hl (by decide) rfl (fun ls hl => ?_)
                      replace hl : lv_has ls 10 [(8, .long 0), (7, .int (nI 0)), (0, .ref (a 0)), (1, .int (nI i)), (2, .int (nI j)), (3, .int (nI vb)), (4, .int (nI mm)), (5, .int (nI ff)), (6, .int (nI t3))] := hl
                      refine lv_lload hx hb d_R_third_230 (lv_at hl 0 rfl) ?_
                      refine lv_lconst (v := 0) hx hb d_R_third_232 (by decide) ?_
                      refine W.lcmp hx hb d_R_third_233 ?_
                      refine lv_if_le (tgt := 242) hx hb d_R_third_234 rfl (fun h234_12 => ?_) (fun h234_12 => ?_)
                      · rw [lg_cmp_le] at h234_12
                        refine lv_iload hx hb d_R_third_242 (lv_at hl 7 rfl) ?_
                        refine lv_istore hx hb d_R_third_244 hl (by decide) rfl (fun ls hl => ?_)
                        replace hl : lv_has ls 10 [(5, .int (nI ff)), (8, .long 0), (7, .int (nI 0)), (0, .ref (a 0)), (1, .int (nI i)), (2, .int (nI j)), (3, .int (nI vb)), (4, .int (nI mm)), (6, .int (nI t3))] := hl
                        refine ec_iinc (k := 8) hx hb d_R_third_246 hl rfl (by decide) rfl (fun ls hl => ?_)
                        replace hl : lv_has ls 10 [(6, .int (nI (t3 + 1))), (5, .int (nI ff)), (8, .long 0), (7, .int (nI 0)), (0, .ref (a 0)), (1, .int (nI i)), (2, .int (nI j)), (3, .int (nI vb)), (4, .int (nI mm))] := hl
                        refine lv_goto (tgt := 146) hx hb d_R_third_249 rfl ?_
                        exact ih146 _ (by omega) (t3 := t3 + 1) (ff := ff) (g3 := ur179_2) (ls := ls) (H := H) (locs := locs) (hS := hS) (hl := lv_sub hl [4, 5, 6, 7, 8, 1, 0] rfl) (hP := hP) (hD := hD) (hle3 := (by omega)) (hI3 := (ec_I3_keep gS.2.2.1 g12 (fun i hi => (gN i hi).1) (fun i hi => (gN i hi).2) hi hj hij hB.2.1 hB.2.2 hI2n hmij hI3 (fun q => h182_2 ((ec_sgn_eq _).mpr q.2.2.1)))) (hk146 := rfl)
                      · rw [lg_cmp_le] at h234_12
                        exact absurd (by decide) h234_12
                    · exact absurd h194_10 (by decide)
                  · refine lv_iconst (v := nI 1) hx hb d_R_third_185 (by decide) ?_
                    refine lv_goto (tgt := 190) hx hb d_R_third_186 rfl ?_
                    refine lv_istore hx hb d_R_third_190 hl (by decide) rfl (fun ls hl => ?_)
                    replace hl : lv_has ls 10 [(7, .int (nI 1)), (0, .ref (a 0)), (1, .int (nI i)), (2, .int (nI j)), (3, .int (nI vb)), (4, .int (nI mm)), (5, .int (nI ff)), (6, .int (nI t3))] := hl
                    refine lv_iload hx hb d_R_third_192 (lv_at hl 0 rfl) ?_
                    refine ec_if_eq (tgt := 227) hx hb d_R_third_194 rfl (by omega) (fun h194_11 => ?_) (fun h194_11 => ?_)
                    · exact absurd h194_11 (by decide)
                    · refine lv_iload hx hb d_R_third_197 (lv_at hl 5 rfl) ?_
                      refine lv_iload_n hx hb d_R_third_199 rfl (lv_at hl 2 rfl) ?_
                      refine ec_icmp_ne (tgt := 215) hx hb d_R_third_200 rfl (by omega) (by omega) (fun h200_2 => ?_) (fun h200_2 => ?_)
                      · refine lv_aload_n hx hb d_R_third_215 rfl (lv_at hl 1 rfl) ?_
                        refine lv_iload hx hb d_R_third_216 (lv_at hl 7 rfl) ?_
                        refine lv_iload_n hx hb d_R_third_218 rfl (lv_at hl 2 rfl) ?_
                        refine lv_iload hx hb d_R_third_219 (lv_at hl 6 rfl) ?_
                        refine ec_vSl (C := "ExactMeshModel") (ci := 5) (q := (R_R, T_R, 18)) (q0 := 0) (As := [.int (nI t3), .int (nI i), .int (nI ff)]) (rest := []) ⟨hx, hb, hml, hown, htb⟩ (c_R_of l dC dI a cI cZ cJ rn rx ry rl rf rt rh gx gy rc w1 w2 w3 rg rk kc kf ur179_2 rest t3 i ff g12 gN (by omega) (by omega) (by omega)) kv_R_of hK hP rfl rfl rfl wd_541 ⟨Nat.le_of_ble_eq_true rfl, Nat.le_of_ble_eq_true rfl⟩ ⟨rfl, rfl⟩ rfl hl.1 rfl (Nat.le_of_ble_eq_true rfl) d_R_third_221 ⟨Nat.zero_le _, Nat.zero_le _⟩ (fun r221_2 hr221_2 => ?_)
                        replace hr221_2 : r221_2.toInt = ge_ori (ec_P rx ry t3) (ec_P rx ry i) (ec_P rx ry ff) := hr221_2
                        refine lv_goto (tgt := 228) hx hb d_R_third_224 rfl ?_
                        refine lv_lstore hx hb d_R_third_228 hl (by decide) rfl (fun ls hl => ?_)
                        replace hl : lv_has ls 10 [(8, .long r221_2), (7, .int (nI 1)), (0, .ref (a 0)), (1, .int (nI i)), (2, .int (nI j)), (3, .int (nI vb)), (4, .int (nI mm)), (5, .int (nI ff)), (6, .int (nI t3))] := hl
                        refine lv_lload hx hb d_R_third_230 (lv_at hl 0 rfl) ?_
                        refine lv_lconst (v := 0) hx hb d_R_third_232 (by decide) ?_
                        refine W.lcmp hx hb d_R_third_233 ?_
                        refine lv_if_le (tgt := 242) hx hb d_R_third_234 rfl (fun h234_13 => ?_) (fun h234_13 => ?_)
                        · rw [lg_cmp_le] at h234_13
                          refine lv_iload hx hb d_R_third_242 (lv_at hl 7 rfl) ?_
                          refine lv_istore hx hb d_R_third_244 hl (by decide) rfl (fun ls hl => ?_)
                          replace hl : lv_has ls 10 [(5, .int (nI ff)), (8, .long r221_2), (7, .int (nI 1)), (0, .ref (a 0)), (1, .int (nI i)), (2, .int (nI j)), (3, .int (nI vb)), (4, .int (nI mm)), (6, .int (nI t3))] := hl
                          refine ec_iinc (k := 8) hx hb d_R_third_246 hl rfl (by decide) rfl (fun ls hl => ?_)
                          replace hl : lv_has ls 10 [(6, .int (nI (t3 + 1))), (5, .int (nI ff)), (8, .long r221_2), (7, .int (nI 1)), (0, .ref (a 0)), (1, .int (nI i)), (2, .int (nI j)), (3, .int (nI vb)), (4, .int (nI mm))] := hl
                          refine lv_goto (tgt := 146) hx hb d_R_third_249 rfl ?_
                          exact ih146 _ (by omega) (t3 := t3 + 1) (ff := ff) (g3 := ur179_2) (ls := ls) (H := H) (locs := locs) (hS := hS) (hl := lv_sub hl [4, 5, 6, 7, 8, 1, 0] rfl) (hP := hP) (hD := hD) (hle3 := (by omega)) (hI3 := (ec_I3_keep gS.2.2.1 g12 (fun i hi => (gN i hi).1) (fun i hi => (gN i hi).2) hi hj hij hB.2.1 hB.2.2 hI2n hmij hI3 (fun q => by have z := q.2.2.2; rw [ec_bes_b h200_2] at z; exact absurd z (Int.not_lt.mpr (ec_le0 hr221_2 h234_13))))) (hk146 := rfl)
                        · rw [lg_cmp_le] at h234_13
                          refine lv_iload hx hb d_R_third_237 (lv_at hl 8 rfl) ?_
                          refine lv_goto (tgt := 244) hx hb d_R_third_239 rfl ?_
                          refine lv_istore hx hb d_R_third_244 hl (by decide) rfl (fun ls hl => ?_)
                          replace hl : lv_has ls 10 [(5, .int (nI t3)), (8, .long r221_2), (7, .int (nI 1)), (0, .ref (a 0)), (1, .int (nI i)), (2, .int (nI j)), (3, .int (nI vb)), (4, .int (nI mm)), (6, .int (nI t3))] := hl
                          refine ec_iinc (k := 8) hx hb d_R_third_246 hl rfl (by decide) rfl (fun ls hl => ?_)
                          replace hl : lv_has ls 10 [(6, .int (nI (t3 + 1))), (5, .int (nI t3)), (8, .long r221_2), (7, .int (nI 1)), (0, .ref (a 0)), (1, .int (nI i)), (2, .int (nI j)), (3, .int (nI vb)), (4, .int (nI mm))] := hl
                          refine lv_goto (tgt := 146) hx hb d_R_third_249 rfl ?_
                          exact ih146 _ (by omega) (t3 := t3 + 1) (ff := t3) (g3 := ur179_2) (ls := ls) (H := H) (locs := locs) (hS := hS) (hl := lv_sub hl [4, 5, 6, 7, 8, 1, 0] rfl) (hP := hP) (hD := hD) (hle3 := (by omega)) (hI3 := (ec_I3_take gS.2.2.1 g12 (fun i hi => (gN i hi).1) (fun i hi => (gN i hi).2) hi hj hij hB.2.1 hB.2.2 hI2n hmij hI3 h152_2 h170_2 ((ec_sgn_eq _).mp h182_2) (by rw [ec_bes_b h200_2]; exact ec_gt0 hr221_2 h234_13))) (hk146 := rfl)
                      · refine lv_aload_n hx hb d_R_third_203 rfl (lv_at hl 1 rfl) ?_
                        refine lv_iload_n hx hb d_R_third_204 rfl (lv_at hl 3 rfl) ?_
                        refine lv_iload hx hb d_R_third_205 (lv_at hl 7 rfl) ?_
                        refine lv_iload hx hb d_R_third_207 (lv_at hl 6 rfl) ?_
                        refine ec_vSl (C := "ExactMeshModel") (ci := 5) (q := (R_R, T_R, 18)) (q0 := 0) (As := [.int (nI j), .int (nI t3), .int (nI ff)]) (rest := []) ⟨hx, hb, hml, hown, htb⟩ (c_R_of l dC dI a cI cZ cJ rn rx ry rl rf rt rh gx gy rc w1 w2 w3 rg rk kc kf ur179_2 rest j t3 ff g12 gN (by omega) (by omega) (by omega)) kv_R_of hK hP rfl rfl rfl wd_541 ⟨Nat.le_of_ble_eq_true rfl, Nat.le_of_ble_eq_true rfl⟩ ⟨rfl, rfl⟩ rfl hl.1 rfl (Nat.le_of_ble_eq_true rfl) d_R_third_209 ⟨Nat.zero_le _, Nat.zero_le _⟩ (fun r209_2 hr209_2 => ?_)
                        replace hr209_2 : r209_2.toInt = ge_ori (ec_P rx ry j) (ec_P rx ry t3) (ec_P rx ry ff) := hr209_2
                        refine lv_goto (tgt := 228) hx hb d_R_third_212 rfl ?_
                        refine lv_lstore hx hb d_R_third_228 hl (by decide) rfl (fun ls hl => ?_)
                        replace hl : lv_has ls 10 [(8, .long r209_2), (7, .int (nI 1)), (0, .ref (a 0)), (1, .int (nI i)), (2, .int (nI j)), (3, .int (nI vb)), (4, .int (nI mm)), (5, .int (nI ff)), (6, .int (nI t3))] := hl
                        refine lv_lload hx hb d_R_third_230 (lv_at hl 0 rfl) ?_
                        refine lv_lconst (v := 0) hx hb d_R_third_232 (by decide) ?_
                        refine W.lcmp hx hb d_R_third_233 ?_
                        refine lv_if_le (tgt := 242) hx hb d_R_third_234 rfl (fun h234_14 => ?_) (fun h234_14 => ?_)
                        · rw [lg_cmp_le] at h234_14
                          refine lv_iload hx hb d_R_third_242 (lv_at hl 7 rfl) ?_
                          refine lv_istore hx hb d_R_third_244 hl (by decide) rfl (fun ls hl => ?_)
                          replace hl : lv_has ls 10 [(5, .int (nI ff)), (8, .long r209_2), (7, .int (nI 1)), (0, .ref (a 0)), (1, .int (nI i)), (2, .int (nI j)), (3, .int (nI vb)), (4, .int (nI mm)), (6, .int (nI t3))] := hl
                          refine ec_iinc (k := 8) hx hb d_R_third_246 hl rfl (by decide) rfl (fun ls hl => ?_)
                          replace hl : lv_has ls 10 [(6, .int (nI (t3 + 1))), (5, .int (nI ff)), (8, .long r209_2), (7, .int (nI 1)), (0, .ref (a 0)), (1, .int (nI i)), (2, .int (nI j)), (3, .int (nI vb)), (4, .int (nI mm))] := hl
                          refine lv_goto (tgt := 146) hx hb d_R_third_249 rfl ?_
                          exact ih146 _ (by omega) (t3 := t3 + 1) (ff := ff) (g3 := ur179_2) (ls := ls) (H := H) (locs := locs) (hS := hS) (hl := lv_sub hl [4, 5, 6, 7, 8, 1, 0] rfl) (hP := hP) (hD := hD) (hle3 := (by omega)) (hI3 := (ec_I3_keep gS.2.2.1 g12 (fun i hi => (gN i hi).1) (fun i hi => (gN i hi).2) hi hj hij hB.2.1 hB.2.2 hI2n hmij hI3 (fun q => by have z := q.2.2.2; rw [ec_bes_a h200_2] at z; exact absurd z (Int.not_lt.mpr (ec_le0 hr209_2 h234_14))))) (hk146 := rfl)
                        · rw [lg_cmp_le] at h234_14
                          refine lv_iload hx hb d_R_third_237 (lv_at hl 8 rfl) ?_
                          refine lv_goto (tgt := 244) hx hb d_R_third_239 rfl ?_
                          refine lv_istore hx hb d_R_third_244 hl (by decide) rfl (fun ls hl => ?_)
                          replace hl : lv_has ls 10 [(5, .int (nI t3)), (8, .long r209_2), (7, .int (nI 1)), (0, .ref (a 0)), (1, .int (nI i)), (2, .int (nI j)), (3, .int (nI vb)), (4, .int (nI mm)), (6, .int (nI t3))] := hl
                          refine ec_iinc (k := 8) hx hb d_R_third_246 hl rfl (by decide) rfl (fun ls hl => ?_)
                          replace hl : lv_has ls 10 [(6, .int (nI (t3 + 1))), (5, .int (nI t3)), (8, .long r209_2), (7, .int (nI 1)), (0, .ref (a 0)), (1, .int (nI i)), (2, .int (nI j)), (3, .int (nI vb)), (4, .int (nI mm))] := hl
                          refine lv_goto (tgt := 146) hx hb d_R_third_249 rfl ?_
                          exact ih146 _ (by omega) (t3 := t3 + 1) (ff := t3) (g3 := ur179_2) (ls := ls) (H := H) (locs := locs) (hS := hS) (hl := lv_sub hl [4, 5, 6, 7, 8, 1, 0] rfl) (hP := hP) (hD := hD) (hle3 := (by omega)) (hI3 := (ec_I3_take gS.2.2.1 g12 (fun i hi => (gN i hi).1) (fun i hi => (gN i hi).2) hi hj hij hB.2.1 hB.2.2 hI2n hmij hI3 h152_2 h170_2 ((ec_sgn_eq _).mp h182_2) (by rw [ec_bes_a h200_2]; exact ec_gt0 hr209_2 h234_14))) (hk146 := rfl)
          · refine lv_iload hx hb d_R_third_131 (lv_at hl 4 rfl) ?_
            refine lv_iload_n hx hb d_R_third_133 rfl (lv_at hl 2 rfl) ?_
            refine ec_icmp_eq (tgt := 140) hx hb d_R_third_134 rfl (by omega) (by omega) (fun h134_1 => ?_) (fun h134_1 => ?_)
            · have hmij : mm = i ∨ mm = j := Or.inr h134_1
              have hI2n := ec_I2_c hI2 (show t2 = rn by omega)
              refine lv_iload_n hx hb d_R_third_140 rfl (lv_at hl 3 rfl) ?_
              refine lv_istore hx hb d_R_third_141 hl (by decide) rfl (fun ls hl => ?_)
              replace hl : lv_has ls 10 [(5, .int (nI vb)), (0, .ref (a 0)), (1, .int (nI i)), (2, .int (nI j)), (3, .int (nI vb)), (4, .int (nI mm))] := hl
              refine lv_iconst (v := nI 0) hx hb d_R_third_143 (by decide) ?_
              refine lv_istore hx hb d_R_third_144 hl (by decide) rfl (fun ls hl => ?_)
              replace hl : lv_has ls 10 [(6, .int (nI 0)), (5, .int (nI vb)), (0, .ref (a 0)), (1, .int (nI i)), (2, .int (nI j)), (3, .int (nI vb)), (4, .int (nI mm))] := hl
              obtain ⟨t3, e_t3⟩ : ∃ z : Nat, z = 0 := ⟨_, rfl⟩
              obtain ⟨ff, e_ff⟩ : ∃ z : Nat, z = vb := ⟨_, rfl⟩
              obtain ⟨g3, e_g3⟩ : ∃ z : Nat → Int64, z = g2 := ⟨_, rfl⟩
              replace hl : lv_has ls 10 [(0, .ref (a 0)), (1, .int (nI i)), (2, .int (nI j)), (3, .int (nI vb)), (4, .int (nI mm)), (5, .int (nI ff)), (6, .int (nI t3))] := by (try simp only [e_t3, e_ff, e_g3]); exact lv_sub hl [2, 3, 4, 5, 6, 1, 0] rfl
              replace hP : va_P (dC, dI) vwCl (wR a cI cZ cJ rn rx ry rl rf rt rh gx gy rc w1 w2 w3 rg rk kc kf g3 ++ rest) H := by (try simp only [e_t3, e_ff, e_g3]); exact hP
              replace hD : va_D A (wR a cI cZ cJ rn rx ry rl rf rt rh gx gy rc w1 w2 w3 rg rk kc kf g3 ++ rest) := ec_Dk hD rfl
              have hle3 : t3 ≤ rn := by omega
              have hI3 : ec_I3 rn (fun i => (rx i).toInt) (fun i => (ry i).toInt) (ec_E rl rf rt) i j vb t3 ff := by simp only [e_t3, e_ff]; exact ec_I3_0 hB.1 hB.2.1
              clear e_g3 e_ff e_t3
              generalize hk146 : rn - t3 = k146
              induction k146 using Nat.strongRecOn generalizing t3 ff g3 ls H locs with
              | ind k146 ih146 =>
              refine lv_iload hx hb d_R_third_146 (lv_at hl 6 rfl) ?_
              refine lv_aload_n hx hb d_R_third_148 rfl (lv_at hl 0 rfl) ?_
              refine va_get (D := (dC, dI)) (ci := 5) (v := .int (nI rn)) (C := R_R) (T := T_R) (N := 18) hx hb htb in_R hown hK hP 0 rfl rfl 0 (by decide) (htb _ wd_449) (fun _ h9 => h9) rfl d_R_third_149 ?_
              refine ec_icmp_ge (tgt := 252) hx hb d_R_third_152 rfl (by omega) (by omega) (fun h152_3 => ?_) (fun h152_3 => ?_)
              · refine lv_iload hx hb d_R_third_252 (lv_at hl 5 rfl) ?_
                exact W.iret hx hb hr (fun tS ht hW => ⟨⟨_, g3, rfl, ⟨some ff, rfl, ec_thd_3 hI3 h152_3⟩, by show va_P _ _ _ tS.heap; rw [ht]; exact hP⟩, hS.F ht⟩) hS.2.2 d_R_third_254
              · have hff := hI3.1
                refine lv_iload hx hb d_R_third_155 (lv_at hl 6 rfl) ?_
                refine lv_iload hx hb d_R_third_157 (lv_at hl 5 rfl) ?_
                refine ec_icmp_eq (tgt := 189) hx hb d_R_third_159 rfl (by omega) (by omega) (fun h159_3 => ?_) (fun h159_3 => ?_)
                · refine lv_iconst (v := nI 0) hx hb d_R_third_189 (by decide) ?_
                  refine lv_istore hx hb d_R_third_190 hl (by decide) rfl (fun ls hl => ?_)
                  replace hl : lv_has ls 10 [(7, .int (nI 0)), (0, .ref (a 0)), (1, .int (nI i)), (2, .int (nI j)), (3, .int (nI vb)), (4, .int (nI mm)), (5, .int (nI ff)), (6, .int (nI t3))] := hl
                  refine lv_iload hx hb d_R_third_192 (lv_at hl 0 rfl) ?_
                  refine ec_if_eq (tgt := 227) hx hb d_R_third_194 rfl (by omega) (fun h194_12 => ?_) (fun h194_12 => ?_)
                  · refine lv_lconst (v := 0) hx hb d_R_third_227 (by decide) ?_
                    refine lv_lstore hx hb d_R_third_228 hl (by decide) rfl (fun ls hl => ?_)
                    replace hl : lv_has ls 10 [(8, .long 0), (7, .int (nI 0)), (0, .ref (a 0)), (1, .int (nI i)), (2, .int (nI j)), (3, .int (nI vb)), (4, .int (nI mm)), (5, .int (nI ff)), (6, .int (nI t3))] := hl
                    refine lv_lload hx hb d_R_third_230 (lv_at hl 0 rfl) ?_
                    refine lv_lconst (v := 0) hx hb d_R_third_232 (by decide) ?_
                    refine W.lcmp hx hb d_R_third_233 ?_
                    refine lv_if_le (tgt := 242) hx hb d_R_third_234 rfl (fun h234_15 => ?_) (fun h234_15 => ?_)
                    · rw [lg_cmp_le] at h234_15
                      refine lv_iload hx hb d_R_third_242 (lv_at hl 7 rfl) ?_
                      refine lv_istore hx hb d_R_third_244 hl (by decide) rfl (fun ls hl => ?_)
                      replace hl : lv_has ls 10 [(5, .int (nI ff)), (8, .long 0), (7, .int (nI 0)), (0, .ref (a 0)), (1, .int (nI i)), (2, .int (nI j)), (3, .int (nI vb)), (4, .int (nI mm)), (6, .int (nI t3))] := hl
                      refine ec_iinc (k := 8) hx hb d_R_third_246 hl rfl (by decide) rfl (fun ls hl => ?_)
                      replace hl : lv_has ls 10 [(6, .int (nI (t3 + 1))), (5, .int (nI ff)), (8, .long 0), (7, .int (nI 0)), (0, .ref (a 0)), (1, .int (nI i)), (2, .int (nI j)), (3, .int (nI vb)), (4, .int (nI mm))] := hl
                      refine lv_goto (tgt := 146) hx hb d_R_third_249 rfl ?_
                      exact ih146 _ (by omega) (t3 := t3 + 1) (ff := ff) (g3 := g3) (ls := ls) (H := H) (locs := locs) (hS := hS) (hl := lv_sub hl [4, 5, 6, 7, 8, 1, 0] rfl) (hP := hP) (hD := hD) (hle3 := (by omega)) (hI3 := (ec_I3_keep gS.2.2.1 g12 (fun i hi => (gN i hi).1) (fun i hi => (gN i hi).2) hi hj hij hB.2.1 hB.2.2 hI2n hmij hI3 (fun q => q.1 h159_3))) (hk146 := rfl)
                    · rw [lg_cmp_le] at h234_15
                      exact absurd (by decide) h234_15
                  · exact absurd h194_12 (by decide)
                · refine lv_aload_n hx hb d_R_third_162 rfl (lv_at hl 0 rfl) ?_
                  refine lv_iload_n hx hb d_R_third_163 rfl (lv_at hl 1 rfl) ?_
                  refine lv_iload_n hx hb d_R_third_164 rfl (lv_at hl 2 rfl) ?_
                  refine lv_iload hx hb d_R_third_165 (lv_at hl 6 rfl) ?_
                  refine ec_vSi (C := "ExactMeshModel") (ci := 5) (q := (R_R, T_R, 18)) (q0 := 0) (As := [.int (nI i), .int (nI j), .int (nI t3)]) (rest := []) ⟨hx, hb, hml, hown, htb⟩ (c_R_canBe l dC dI a cI cZ cJ rn rx ry rl rf rt rh gx gy rc w1 w2 w3 rg rk kc kf g3 rest i j t3 g12 gN grl gll (by omega) (by omega) (by omega)) kv_R_canBe hK hP rfl rfl rfl wd_594 ⟨Nat.le_of_ble_eq_true rfl, Nat.le_of_ble_eq_true rfl⟩ ⟨rfl, rfl⟩ rfl hl.1 rfl (Nat.le_of_ble_eq_true rfl) d_R_third_167 ⟨Nat.zero_le _, Nat.zero_le _⟩ (fun r167_3 hr167_3 => ?_)
                  replace hr167_3 : ec_isB r167_3 (ec_can rn (ec_P rx ry) (ec_E rl rf rt) i j t3) := hr167_3
                  refine ec_if_eqB (tgt := 189) hx hb hr167_3 d_R_third_170 rfl (fun h170_3 => ?_) (fun h170_3 => ?_)
                  · refine lv_iconst (v := nI 0) hx hb d_R_third_189 (by decide) ?_
                    refine lv_istore hx hb d_R_third_190 hl (by decide) rfl (fun ls hl => ?_)
                    replace hl : lv_has ls 10 [(7, .int (nI 0)), (0, .ref (a 0)), (1, .int (nI i)), (2, .int (nI j)), (3, .int (nI vb)), (4, .int (nI mm)), (5, .int (nI ff)), (6, .int (nI t3))] := hl
                    refine lv_iload hx hb d_R_third_192 (lv_at hl 0 rfl) ?_
                    refine ec_if_eq (tgt := 227) hx hb d_R_third_194 rfl (by omega) (fun h194_13 => ?_) (fun h194_13 => ?_)
                    · refine lv_lconst (v := 0) hx hb d_R_third_227 (by decide) ?_
                      refine lv_lstore hx hb d_R_third_228 hl (by decide) rfl (fun ls hl => ?_)
                      replace hl : lv_has ls 10 [(8, .long 0), (7, .int (nI 0)), (0, .ref (a 0)), (1, .int (nI i)), (2, .int (nI j)), (3, .int (nI vb)), (4, .int (nI mm)), (5, .int (nI ff)), (6, .int (nI t3))] := hl
                      refine lv_lload hx hb d_R_third_230 (lv_at hl 0 rfl) ?_
                      refine lv_lconst (v := 0) hx hb d_R_third_232 (by decide) ?_
                      refine W.lcmp hx hb d_R_third_233 ?_
                      refine lv_if_le (tgt := 242) hx hb d_R_third_234 rfl (fun h234_16 => ?_) (fun h234_16 => ?_)
                      · rw [lg_cmp_le] at h234_16
                        refine lv_iload hx hb d_R_third_242 (lv_at hl 7 rfl) ?_
                        refine lv_istore hx hb d_R_third_244 hl (by decide) rfl (fun ls hl => ?_)
                        replace hl : lv_has ls 10 [(5, .int (nI ff)), (8, .long 0), (7, .int (nI 0)), (0, .ref (a 0)), (1, .int (nI i)), (2, .int (nI j)), (3, .int (nI vb)), (4, .int (nI mm)), (6, .int (nI t3))] := hl
                        refine ec_iinc (k := 8) hx hb d_R_third_246 hl rfl (by decide) rfl (fun ls hl => ?_)
                        replace hl : lv_has ls 10 [(6, .int (nI (t3 + 1))), (5, .int (nI ff)), (8, .long 0), (7, .int (nI 0)), (0, .ref (a 0)), (1, .int (nI i)), (2, .int (nI j)), (3, .int (nI vb)), (4, .int (nI mm))] := hl
                        refine lv_goto (tgt := 146) hx hb d_R_third_249 rfl ?_
                        exact ih146 _ (by omega) (t3 := t3 + 1) (ff := ff) (g3 := g3) (ls := ls) (H := H) (locs := locs) (hS := hS) (hl := lv_sub hl [4, 5, 6, 7, 8, 1, 0] rfl) (hP := hP) (hD := hD) (hle3 := (by omega)) (hI3 := (ec_I3_keep gS.2.2.1 g12 (fun i hi => (gN i hi).1) (fun i hi => (gN i hi).2) hi hj hij hB.2.1 hB.2.2 hI2n hmij hI3 (fun q => h170_3 q.2.1))) (hk146 := rfl)
                      · rw [lg_cmp_le] at h234_16
                        exact absurd (by decide) h234_16
                    · exact absurd h194_13 (by decide)
                  · refine lv_aload_n hx hb d_R_third_173 rfl (lv_at hl 0 rfl) ?_
                    refine lv_iload_n hx hb d_R_third_174 rfl (lv_at hl 1 rfl) ?_
                    refine lv_iload_n hx hb d_R_third_175 rfl (lv_at hl 2 rfl) ?_
                    refine lv_iload_n hx hb d_R_third_176 rfl (lv_at hl 3 rfl) ?_
                    refine lv_iload hx hb d_R_third_177 (lv_at hl 6 rfl) ?_
                    refine ec_vQi (C := "ExactMeshModel") (ci := 5) (q := (R_R, T_R, 18)) (q0 := 0) (As := [.int (nI i), .int (nI j), .int (nI vb), .int (nI t3)]) (rest := []) ⟨hx, hb, hml, hown, htb⟩ (c_R_circle l dC dI a cI cZ cJ rn rx ry rl rf rt rh gx gy rc w1 w2 w3 rg rk kc kf g3 rest i j vb t3 g12 gN (by omega) (by omega) (by omega) (by omega) A hD) kv_R_circle hK hP rfl rfl rfl hS wd_561 ⟨Nat.le_of_ble_eq_true rfl, Nat.le_of_ble_eq_true rfl⟩ ⟨rfl, rfl⟩ rfl hl.1 rfl (Nat.le_of_ble_eq_true rfl) d_R_third_179 ⟨Nat.zero_le _, Nat.zero_le _⟩ (fun r179_3 ur179_3 H locs hr179_3 hP hS => ?_)
                    replace hr179_3 : r179_3 = ec_sgn (ec_circ rx ry i j vb t3) := hr179_3
                    replace hP : va_P (dC, dI) vwCl (wR a cI cZ cJ rn rx ry rl rf rt rh gx gy rc w1 w2 w3 rg rk kc kf ur179_3 ++ rest) H := hP
                    replace hD : va_D A (wR a cI cZ cJ rn rx ry rl rf rt rh gx gy rc w1 w2 w3 rg rk kc kf ur179_3 ++ rest) := ec_Dk hD rfl
                    subst hr179_3
                    refine lv_if_ne (tgt := 189) hx hb d_R_third_182 rfl (fun h182_3 => ?_) (fun h182_3 => ?_)
                    · refine lv_iconst (v := nI 0) hx hb d_R_third_189 (by decide) ?_
                      refine lv_istore hx hb d_R_third_190 hl (by decide) rfl (fun ls hl => ?_)
                      replace hl : lv_has ls 10 [(7, .int (nI 0)), (0, .ref (a 0)), (1, .int (nI i)), (2, .int (nI j)), (3, .int (nI vb)), (4, .int (nI mm)), (5, .int (nI ff)), (6, .int (nI t3))] := hl
                      refine lv_iload hx hb d_R_third_192 (lv_at hl 0 rfl) ?_
                      refine ec_if_eq (tgt := 227) hx hb d_R_third_194 rfl (by omega) (fun h194_14 => ?_) (fun h194_14 => ?_)
                      · refine lv_lconst (v := 0) hx hb d_R_third_227 (by decide) ?_
                        refine lv_lstore hx hb d_R_third_228 hl (by decide) rfl (fun ls hl => ?_)
                        replace hl : lv_has ls 10 [(8, .long 0), (7, .int (nI 0)), (0, .ref (a 0)), (1, .int (nI i)), (2, .int (nI j)), (3, .int (nI vb)), (4, .int (nI mm)), (5, .int (nI ff)), (6, .int (nI t3))] := hl
                        refine lv_lload hx hb d_R_third_230 (lv_at hl 0 rfl) ?_
                        refine lv_lconst (v := 0) hx hb d_R_third_232 (by decide) ?_
                        refine W.lcmp hx hb d_R_third_233 ?_
                        refine lv_if_le (tgt := 242) hx hb d_R_third_234 rfl (fun h234_17 => ?_) (fun h234_17 => ?_)
                        · rw [lg_cmp_le] at h234_17
                          refine lv_iload hx hb d_R_third_242 (lv_at hl 7 rfl) ?_
                          refine lv_istore hx hb d_R_third_244 hl (by decide) rfl (fun ls hl => ?_)
                          replace hl : lv_has ls 10 [(5, .int (nI ff)), (8, .long 0), (7, .int (nI 0)), (0, .ref (a 0)), (1, .int (nI i)), (2, .int (nI j)), (3, .int (nI vb)), (4, .int (nI mm)), (6, .int (nI t3))] := hl
                          refine ec_iinc (k := 8) hx hb d_R_third_246 hl rfl (by decide) rfl (fun ls hl => ?_)
                          replace hl : lv_has ls 10 [(6, .int (nI (t3 + 1))), (5, .int (nI ff)), (8, .long 0), (7, .int (nI 0)), (0, .ref (a 0)), (1, .int (nI i)), (2, .int (nI j)), (3, .int (nI vb)), (4, .int (nI mm))] := hl
                          refine lv_goto (tgt := 146) hx hb d_R_third_249 rfl ?_
                          exact ih146 _ (by omega) (t3 := t3 + 1) (ff := ff) (g3 := ur179_3) (ls := ls) (H := H) (locs := locs) (hS := hS) (hl := lv_sub hl [4, 5, 6, 7, 8, 1, 0] rfl) (hP := hP) (hD := hD) (hle3 := (by omega)) (hI3 := (ec_I3_keep gS.2.2.1 g12 (fun i hi => (gN i hi).1) (fun i hi => (gN i hi).2) hi hj hij hB.2.1 hB.2.2 hI2n hmij hI3 (fun q => h182_3 ((ec_sgn_eq _).mpr q.2.2.1)))) (hk146 := rfl)
                        · rw [lg_cmp_le] at h234_17
                          exact absurd (by decide) h234_17
                      · exact absurd h194_14 (by decide)
                    · refine lv_iconst (v := nI 1) hx hb d_R_third_185 (by decide) ?_
                      refine lv_goto (tgt := 190) hx hb d_R_third_186 rfl ?_
                      refine lv_istore hx hb d_R_third_190 hl (by decide) rfl (fun ls hl => ?_)
                      replace hl : lv_has ls 10 [(7, .int (nI 1)), (0, .ref (a 0)), (1, .int (nI i)), (2, .int (nI j)), (3, .int (nI vb)), (4, .int (nI mm)), (5, .int (nI ff)), (6, .int (nI t3))] := hl
                      refine lv_iload hx hb d_R_third_192 (lv_at hl 0 rfl) ?_
                      refine ec_if_eq (tgt := 227) hx hb d_R_third_194 rfl (by omega) (fun h194_15 => ?_) (fun h194_15 => ?_)
                      · exact absurd h194_15 (by decide)
                      · refine lv_iload hx hb d_R_third_197 (lv_at hl 5 rfl) ?_
                        refine lv_iload_n hx hb d_R_third_199 rfl (lv_at hl 2 rfl) ?_
                        refine ec_icmp_ne (tgt := 215) hx hb d_R_third_200 rfl (by omega) (by omega) (fun h200_3 => ?_) (fun h200_3 => ?_)
                        · refine lv_aload_n hx hb d_R_third_215 rfl (lv_at hl 1 rfl) ?_
                          refine lv_iload hx hb d_R_third_216 (lv_at hl 7 rfl) ?_
                          refine lv_iload_n hx hb d_R_third_218 rfl (lv_at hl 2 rfl) ?_
                          refine lv_iload hx hb d_R_third_219 (lv_at hl 6 rfl) ?_
                          refine ec_vSl (C := "ExactMeshModel") (ci := 5) (q := (R_R, T_R, 18)) (q0 := 0) (As := [.int (nI t3), .int (nI i), .int (nI ff)]) (rest := []) ⟨hx, hb, hml, hown, htb⟩ (c_R_of l dC dI a cI cZ cJ rn rx ry rl rf rt rh gx gy rc w1 w2 w3 rg rk kc kf ur179_3 rest t3 i ff g12 gN (by omega) (by omega) (by omega)) kv_R_of hK hP rfl rfl rfl wd_541 ⟨Nat.le_of_ble_eq_true rfl, Nat.le_of_ble_eq_true rfl⟩ ⟨rfl, rfl⟩ rfl hl.1 rfl (Nat.le_of_ble_eq_true rfl) d_R_third_221 ⟨Nat.zero_le _, Nat.zero_le _⟩ (fun r221_3 hr221_3 => ?_)
                          replace hr221_3 : r221_3.toInt = ge_ori (ec_P rx ry t3) (ec_P rx ry i) (ec_P rx ry ff) := hr221_3
                          refine lv_goto (tgt := 228) hx hb d_R_third_224 rfl ?_
                          refine lv_lstore hx hb d_R_third_228 hl (by decide) rfl (fun ls hl => ?_)
                          replace hl : lv_has ls 10 [(8, .long r221_3), (7, .int (nI 1)), (0, .ref (a 0)), (1, .int (nI i)), (2, .int (nI j)), (3, .int (nI vb)), (4, .int (nI mm)), (5, .int (nI ff)), (6, .int (nI t3))] := hl
                          refine lv_lload hx hb d_R_third_230 (lv_at hl 0 rfl) ?_
                          refine lv_lconst (v := 0) hx hb d_R_third_232 (by decide) ?_
                          refine W.lcmp hx hb d_R_third_233 ?_
                          refine lv_if_le (tgt := 242) hx hb d_R_third_234 rfl (fun h234_18 => ?_) (fun h234_18 => ?_)
                          · rw [lg_cmp_le] at h234_18
                            refine lv_iload hx hb d_R_third_242 (lv_at hl 7 rfl) ?_
                            refine lv_istore hx hb d_R_third_244 hl (by decide) rfl (fun ls hl => ?_)
                            replace hl : lv_has ls 10 [(5, .int (nI ff)), (8, .long r221_3), (7, .int (nI 1)), (0, .ref (a 0)), (1, .int (nI i)), (2, .int (nI j)), (3, .int (nI vb)), (4, .int (nI mm)), (6, .int (nI t3))] := hl
                            refine ec_iinc (k := 8) hx hb d_R_third_246 hl rfl (by decide) rfl (fun ls hl => ?_)
                            replace hl : lv_has ls 10 [(6, .int (nI (t3 + 1))), (5, .int (nI ff)), (8, .long r221_3), (7, .int (nI 1)), (0, .ref (a 0)), (1, .int (nI i)), (2, .int (nI j)), (3, .int (nI vb)), (4, .int (nI mm))] := hl
                            refine lv_goto (tgt := 146) hx hb d_R_third_249 rfl ?_
                            exact ih146 _ (by omega) (t3 := t3 + 1) (ff := ff) (g3 := ur179_3) (ls := ls) (H := H) (locs := locs) (hS := hS) (hl := lv_sub hl [4, 5, 6, 7, 8, 1, 0] rfl) (hP := hP) (hD := hD) (hle3 := (by omega)) (hI3 := (ec_I3_keep gS.2.2.1 g12 (fun i hi => (gN i hi).1) (fun i hi => (gN i hi).2) hi hj hij hB.2.1 hB.2.2 hI2n hmij hI3 (fun q => by have z := q.2.2.2; rw [ec_bes_b h200_3] at z; exact absurd z (Int.not_lt.mpr (ec_le0 hr221_3 h234_18))))) (hk146 := rfl)
                          · rw [lg_cmp_le] at h234_18
                            refine lv_iload hx hb d_R_third_237 (lv_at hl 8 rfl) ?_
                            refine lv_goto (tgt := 244) hx hb d_R_third_239 rfl ?_
                            refine lv_istore hx hb d_R_third_244 hl (by decide) rfl (fun ls hl => ?_)
                            replace hl : lv_has ls 10 [(5, .int (nI t3)), (8, .long r221_3), (7, .int (nI 1)), (0, .ref (a 0)), (1, .int (nI i)), (2, .int (nI j)), (3, .int (nI vb)), (4, .int (nI mm)), (6, .int (nI t3))] := hl
                            refine ec_iinc (k := 8) hx hb d_R_third_246 hl rfl (by decide) rfl (fun ls hl => ?_)
                            replace hl : lv_has ls 10 [(6, .int (nI (t3 + 1))), (5, .int (nI t3)), (8, .long r221_3), (7, .int (nI 1)), (0, .ref (a 0)), (1, .int (nI i)), (2, .int (nI j)), (3, .int (nI vb)), (4, .int (nI mm))] := hl
                            refine lv_goto (tgt := 146) hx hb d_R_third_249 rfl ?_
                            exact ih146 _ (by omega) (t3 := t3 + 1) (ff := t3) (g3 := ur179_3) (ls := ls) (H := H) (locs := locs) (hS := hS) (hl := lv_sub hl [4, 5, 6, 7, 8, 1, 0] rfl) (hP := hP) (hD := hD) (hle3 := (by omega)) (hI3 := (ec_I3_take gS.2.2.1 g12 (fun i hi => (gN i hi).1) (fun i hi => (gN i hi).2) hi hj hij hB.2.1 hB.2.2 hI2n hmij hI3 h152_3 h170_3 ((ec_sgn_eq _).mp h182_3) (by rw [ec_bes_b h200_3]; exact ec_gt0 hr221_3 h234_18))) (hk146 := rfl)
                        · refine lv_aload_n hx hb d_R_third_203 rfl (lv_at hl 1 rfl) ?_
                          refine lv_iload_n hx hb d_R_third_204 rfl (lv_at hl 3 rfl) ?_
                          refine lv_iload hx hb d_R_third_205 (lv_at hl 7 rfl) ?_
                          refine lv_iload hx hb d_R_third_207 (lv_at hl 6 rfl) ?_
                          refine ec_vSl (C := "ExactMeshModel") (ci := 5) (q := (R_R, T_R, 18)) (q0 := 0) (As := [.int (nI j), .int (nI t3), .int (nI ff)]) (rest := []) ⟨hx, hb, hml, hown, htb⟩ (c_R_of l dC dI a cI cZ cJ rn rx ry rl rf rt rh gx gy rc w1 w2 w3 rg rk kc kf ur179_3 rest j t3 ff g12 gN (by omega) (by omega) (by omega)) kv_R_of hK hP rfl rfl rfl wd_541 ⟨Nat.le_of_ble_eq_true rfl, Nat.le_of_ble_eq_true rfl⟩ ⟨rfl, rfl⟩ rfl hl.1 rfl (Nat.le_of_ble_eq_true rfl) d_R_third_209 ⟨Nat.zero_le _, Nat.zero_le _⟩ (fun r209_3 hr209_3 => ?_)
                          replace hr209_3 : r209_3.toInt = ge_ori (ec_P rx ry j) (ec_P rx ry t3) (ec_P rx ry ff) := hr209_3
                          refine lv_goto (tgt := 228) hx hb d_R_third_212 rfl ?_
                          refine lv_lstore hx hb d_R_third_228 hl (by decide) rfl (fun ls hl => ?_)
                          replace hl : lv_has ls 10 [(8, .long r209_3), (7, .int (nI 1)), (0, .ref (a 0)), (1, .int (nI i)), (2, .int (nI j)), (3, .int (nI vb)), (4, .int (nI mm)), (5, .int (nI ff)), (6, .int (nI t3))] := hl
                          refine lv_lload hx hb d_R_third_230 (lv_at hl 0 rfl) ?_
                          refine lv_lconst (v := 0) hx hb d_R_third_232 (by decide) ?_
                          refine W.lcmp hx hb d_R_third_233 ?_
                          refine lv_if_le (tgt := 242) hx hb d_R_third_234 rfl (fun h234_19 => ?_) (fun h234_19 => ?_)
                          · rw [lg_cmp_le] at h234_19
                            refine lv_iload hx hb d_R_third_242 (lv_at hl 7 rfl) ?_
                            refine lv_istore hx hb d_R_third_244 hl (by decide) rfl (fun ls hl => ?_)
                            replace hl : lv_has ls 10 [(5, .int (nI ff)), (8, .long r209_3), (7, .int (nI 1)), (0, .ref (a 0)), (1, .int (nI i)), (2, .int (nI j)), (3, .int (nI vb)), (4, .int (nI mm)), (6, .int (nI t3))] := hl
                            refine ec_iinc (k := 8) hx hb d_R_third_246 hl rfl (by decide) rfl (fun ls hl => ?_)
                            replace hl : lv_has ls 10 [(6, .int (nI (t3 + 1))), (5, .int (nI ff)), (8, .long r209_3), (7, .int (nI 1)), (0, .ref (a 0)), (1, .int (nI i)), (2, .int (nI j)), (3, .int (nI vb)), (4, .int (nI mm))] := hl
                            refine lv_goto (tgt := 146) hx hb d_R_third_249 rfl ?_
                            exact ih146 _ (by omega) (t3 := t3 + 1) (ff := ff) (g3 := ur179_3) (ls := ls) (H := H) (locs := locs) (hS := hS) (hl := lv_sub hl [4, 5, 6, 7, 8, 1, 0] rfl) (hP := hP) (hD := hD) (hle3 := (by omega)) (hI3 := (ec_I3_keep gS.2.2.1 g12 (fun i hi => (gN i hi).1) (fun i hi => (gN i hi).2) hi hj hij hB.2.1 hB.2.2 hI2n hmij hI3 (fun q => by have z := q.2.2.2; rw [ec_bes_a h200_3] at z; exact absurd z (Int.not_lt.mpr (ec_le0 hr209_3 h234_19))))) (hk146 := rfl)
                          · rw [lg_cmp_le] at h234_19
                            refine lv_iload hx hb d_R_third_237 (lv_at hl 8 rfl) ?_
                            refine lv_goto (tgt := 244) hx hb d_R_third_239 rfl ?_
                            refine lv_istore hx hb d_R_third_244 hl (by decide) rfl (fun ls hl => ?_)
                            replace hl : lv_has ls 10 [(5, .int (nI t3)), (8, .long r209_3), (7, .int (nI 1)), (0, .ref (a 0)), (1, .int (nI i)), (2, .int (nI j)), (3, .int (nI vb)), (4, .int (nI mm)), (6, .int (nI t3))] := hl
                            refine ec_iinc (k := 8) hx hb d_R_third_246 hl rfl (by decide) rfl (fun ls hl => ?_)
                            replace hl : lv_has ls 10 [(6, .int (nI (t3 + 1))), (5, .int (nI t3)), (8, .long r209_3), (7, .int (nI 1)), (0, .ref (a 0)), (1, .int (nI i)), (2, .int (nI j)), (3, .int (nI vb)), (4, .int (nI mm))] := hl
                            refine lv_goto (tgt := 146) hx hb d_R_third_249 rfl ?_
                            exact ih146 _ (by omega) (t3 := t3 + 1) (ff := t3) (g3 := ur179_3) (ls := ls) (H := H) (locs := locs) (hS := hS) (hl := lv_sub hl [4, 5, 6, 7, 8, 1, 0] rfl) (hP := hP) (hD := hD) (hle3 := (by omega)) (hI3 := (ec_I3_take gS.2.2.1 g12 (fun i hi => (gN i hi).1) (fun i hi => (gN i hi).2) hi hj hij hB.2.1 hB.2.2 hI2n hmij hI3 h152_3 h170_3 ((ec_sgn_eq _).mp h182_3) (by rw [ec_bes_a h200_3]; exact ec_gt0 hr209_3 h234_19))) (hk146 := rfl)
            · refine lv_iload hx hb d_R_third_137 (lv_at hl 4 rfl) ?_
              exact W.iret hx hb hr (fun tS ht hW => ⟨⟨_, g2, rfl, ⟨some mm, rfl, ec_thd_2 gS.2.2.1 g12 (fun i hi => (gN i hi).1) (fun i hi => (gN i hi).2) hi hj hB hI2 hle2 h77_1 h128_1 h134_1⟩, by show va_P _ _ _ tS.heap; rw [ht]; exact hP⟩, hS.F ht⟩) hS.2.2 d_R_third_139
        · refine lv_iload hx hb d_R_third_80 (lv_at hl 5 rfl) ?_
          refine lv_iload hx hb d_R_third_82 (lv_at hl 4 rfl) ?_
          refine ec_icmp_ge (tgt := 115) hx hb d_R_third_84 rfl (by omega) (by omega) (fun h84_1 => ?_) (fun h84_1 => ?_)
          · refine lv_iload hx hb d_R_third_115 (lv_at hl 4 rfl) ?_
            refine lv_istore hx hb d_R_third_117 hl (by decide) rfl (fun ls hl => ?_)
            replace hl : lv_has ls 10 [(4, .int (nI mm)), (0, .ref (a 0)), (1, .int (nI i)), (2, .int (nI j)), (3, .int (nI vb)), (5, .int (nI t2))] := hl
            refine ec_iinc (k := 5) hx hb d_R_third_119 hl rfl (by decide) rfl (fun ls hl => ?_)
            replace hl : lv_has ls 10 [(5, .int (nI (t2 + 1))), (4, .int (nI mm)), (0, .ref (a 0)), (1, .int (nI i)), (2, .int (nI j)), (3, .int (nI vb))] := hl
            refine lv_goto (tgt := 71) hx hb d_R_third_122 rfl ?_
            exact ih71 _ (by omega) (t2 := t2 + 1) (mm := mm) (g2 := g2) (ls := ls) (H := H) (locs := locs) (hS := hS) (hl := lv_sub hl [2, 3, 4, 5, 1, 0] rfl) (hP := hP) (hD := hD) (hle2 := (by omega)) (hmm := (by omega)) (hI2 := (ec_I2_keep hI2 (fun q => by have := q.1; omega))) (hk71 := rfl)
          · refine lv_aload_n hx hb d_R_third_87 rfl (lv_at hl 0 rfl) ?_
            refine lv_iload_n hx hb d_R_third_88 rfl (lv_at hl 1 rfl) ?_
            refine lv_iload_n hx hb d_R_third_89 rfl (lv_at hl 2 rfl) ?_
            refine lv_iload hx hb d_R_third_90 (lv_at hl 5 rfl) ?_
            refine ec_vSi (C := "ExactMeshModel") (ci := 5) (q := (R_R, T_R, 18)) (q0 := 0) (As := [.int (nI i), .int (nI j), .int (nI t2)]) (rest := []) ⟨hx, hb, hml, hown, htb⟩ (c_R_canBe l dC dI a cI cZ cJ rn rx ry rl rf rt rh gx gy rc w1 w2 w3 rg rk kc kf g2 rest i j t2 g12 gN grl gll (by omega) (by omega) (by omega)) kv_R_canBe hK hP rfl rfl rfl wd_594 ⟨Nat.le_of_ble_eq_true rfl, Nat.le_of_ble_eq_true rfl⟩ ⟨rfl, rfl⟩ rfl hl.1 rfl (Nat.le_of_ble_eq_true rfl) d_R_third_92 ⟨Nat.zero_le _, Nat.zero_le _⟩ (fun r92_1 hr92_1 => ?_)
            replace hr92_1 : ec_isB r92_1 (ec_can rn (ec_P rx ry) (ec_E rl rf rt) i j t2) := hr92_1
            refine ec_if_eqB (tgt := 115) hx hb hr92_1 d_R_third_95 rfl (fun h95_1 => ?_) (fun h95_1 => ?_)
            · refine lv_iload hx hb d_R_third_115 (lv_at hl 4 rfl) ?_
              refine lv_istore hx hb d_R_third_117 hl (by decide) rfl (fun ls hl => ?_)
              replace hl : lv_has ls 10 [(4, .int (nI mm)), (0, .ref (a 0)), (1, .int (nI i)), (2, .int (nI j)), (3, .int (nI vb)), (5, .int (nI t2))] := hl
              refine ec_iinc (k := 5) hx hb d_R_third_119 hl rfl (by decide) rfl (fun ls hl => ?_)
              replace hl : lv_has ls 10 [(5, .int (nI (t2 + 1))), (4, .int (nI mm)), (0, .ref (a 0)), (1, .int (nI i)), (2, .int (nI j)), (3, .int (nI vb))] := hl
              refine lv_goto (tgt := 71) hx hb d_R_third_122 rfl ?_
              exact ih71 _ (by omega) (t2 := t2 + 1) (mm := mm) (g2 := g2) (ls := ls) (H := H) (locs := locs) (hS := hS) (hl := lv_sub hl [2, 3, 4, 5, 1, 0] rfl) (hP := hP) (hD := hD) (hle2 := (by omega)) (hmm := (by omega)) (hI2 := (ec_I2_keep hI2 (fun q => h95_1 q.2.1))) (hk71 := rfl)
            · refine lv_aload_n hx hb d_R_third_98 rfl (lv_at hl 0 rfl) ?_
              refine lv_iload_n hx hb d_R_third_99 rfl (lv_at hl 1 rfl) ?_
              refine lv_iload_n hx hb d_R_third_100 rfl (lv_at hl 2 rfl) ?_
              refine lv_iload_n hx hb d_R_third_101 rfl (lv_at hl 3 rfl) ?_
              refine lv_iload hx hb d_R_third_102 (lv_at hl 5 rfl) ?_
              refine ec_vQi (C := "ExactMeshModel") (ci := 5) (q := (R_R, T_R, 18)) (q0 := 0) (As := [.int (nI i), .int (nI j), .int (nI vb), .int (nI t2)]) (rest := []) ⟨hx, hb, hml, hown, htb⟩ (c_R_circle l dC dI a cI cZ cJ rn rx ry rl rf rt rh gx gy rc w1 w2 w3 rg rk kc kf g2 rest i j vb t2 g12 gN (by omega) (by omega) (by omega) (by omega) A hD) kv_R_circle hK hP rfl rfl rfl hS wd_561 ⟨Nat.le_of_ble_eq_true rfl, Nat.le_of_ble_eq_true rfl⟩ ⟨rfl, rfl⟩ rfl hl.1 rfl (Nat.le_of_ble_eq_true rfl) d_R_third_104 ⟨Nat.zero_le _, Nat.zero_le _⟩ (fun r104_1 ur104_1 H locs hr104_1 hP hS => ?_)
              replace hr104_1 : r104_1 = ec_sgn (ec_circ rx ry i j vb t2) := hr104_1
              replace hP : va_P (dC, dI) vwCl (wR a cI cZ cJ rn rx ry rl rf rt rh gx gy rc w1 w2 w3 rg rk kc kf ur104_1 ++ rest) H := hP
              replace hD : va_D A (wR a cI cZ cJ rn rx ry rl rf rt rh gx gy rc w1 w2 w3 rg rk kc kf ur104_1 ++ rest) := ec_Dk hD rfl
              subst hr104_1
              refine lv_if_ne (tgt := 115) hx hb d_R_third_107 rfl (fun h107_1 => ?_) (fun h107_1 => ?_)
              · refine lv_iload hx hb d_R_third_115 (lv_at hl 4 rfl) ?_
                refine lv_istore hx hb d_R_third_117 hl (by decide) rfl (fun ls hl => ?_)
                replace hl : lv_has ls 10 [(4, .int (nI mm)), (0, .ref (a 0)), (1, .int (nI i)), (2, .int (nI j)), (3, .int (nI vb)), (5, .int (nI t2))] := hl
                refine ec_iinc (k := 5) hx hb d_R_third_119 hl rfl (by decide) rfl (fun ls hl => ?_)
                replace hl : lv_has ls 10 [(5, .int (nI (t2 + 1))), (4, .int (nI mm)), (0, .ref (a 0)), (1, .int (nI i)), (2, .int (nI j)), (3, .int (nI vb))] := hl
                refine lv_goto (tgt := 71) hx hb d_R_third_122 rfl ?_
                exact ih71 _ (by omega) (t2 := t2 + 1) (mm := mm) (g2 := ur104_1) (ls := ls) (H := H) (locs := locs) (hS := hS) (hl := lv_sub hl [2, 3, 4, 5, 1, 0] rfl) (hP := hP) (hD := hD) (hle2 := (by omega)) (hmm := (by omega)) (hI2 := (ec_I2_keep hI2 (fun q => h107_1 ((ec_sgn_eq _).mpr q.2.2)))) (hk71 := rfl)
              · refine lv_iload hx hb d_R_third_110 (lv_at hl 5 rfl) ?_
                refine lv_goto (tgt := 117) hx hb d_R_third_112 rfl ?_
                refine lv_istore hx hb d_R_third_117 hl (by decide) rfl (fun ls hl => ?_)
                replace hl : lv_has ls 10 [(4, .int (nI t2)), (0, .ref (a 0)), (1, .int (nI i)), (2, .int (nI j)), (3, .int (nI vb)), (5, .int (nI t2))] := hl
                refine ec_iinc (k := 5) hx hb d_R_third_119 hl rfl (by decide) rfl (fun ls hl => ?_)
                replace hl : lv_has ls 10 [(5, .int (nI (t2 + 1))), (4, .int (nI t2)), (0, .ref (a 0)), (1, .int (nI i)), (2, .int (nI j)), (3, .int (nI vb))] := hl
                refine lv_goto (tgt := 71) hx hb d_R_third_122 rfl ?_
                exact ih71 _ (by omega) (t2 := t2 + 1) (mm := t2) (g2 := ur104_1) (ls := ls) (H := H) (locs := locs) (hS := hS) (hl := lv_sub hl [2, 3, 4, 5, 1, 0] rfl) (hP := hP) (hD := hD) (hle2 := (by omega)) (hmm := (by omega)) (hI2 := (ec_I2_take hI2 h77_1 (by omega) h95_1 ((ec_sgn_eq _).mp h107_1))) (hk71 := rfl)
  · refine lv_aload_n hx hb d_R_third_14 rfl (lv_at hl 0 rfl) ?_
    refine lv_iload_n hx hb d_R_third_15 rfl (lv_at hl 1 rfl) ?_
    refine lv_iload_n hx hb d_R_third_16 rfl (lv_at hl 2 rfl) ?_
    refine lv_iload hx hb d_R_third_17 (lv_at hl 4 rfl) ?_
    refine ec_vSi (C := "ExactMeshModel") (ci := 5) (q := (R_R, T_R, 18)) (q0 := 0) (As := [.int (nI i), .int (nI j), .int (nI t)]) (rest := []) ⟨hx, hb, hml, hown, htb⟩ (c_R_canBe l dC dI a cI cZ cJ rn rx ry rl rf rt rh gx gy rc w1 w2 w3 rg rk kc kf g rest i j t g12 gN grl gll (by omega) (by omega) (by omega)) kv_R_canBe hK hP rfl rfl rfl wd_594 ⟨Nat.le_of_ble_eq_true rfl, Nat.le_of_ble_eq_true rfl⟩ ⟨rfl, rfl⟩ rfl hl.1 rfl (Nat.le_of_ble_eq_true rfl) d_R_third_19 ⟨Nat.zero_le _, Nat.zero_le _⟩ (fun r19 hr19 => ?_)
    replace hr19 : ec_isB r19 (ec_can rn (ec_P rx ry) (ec_E rl rf rt) i j t) := hr19
    refine ec_if_eqB (tgt := 44) hx hb hr19 d_R_third_22 rfl (fun h22 => ?_) (fun h22 => ?_)
    · refine ec_iinc (k := 4) hx hb d_R_third_44 hl rfl (by decide) rfl (fun ls hl => ?_)
      replace hl : lv_has ls 10 [(4, .int (nI (t + 1))), (0, .ref (a 0)), (1, .int (nI i)), (2, .int (nI j)), (3, .int (ec_oi o))] := hl
      refine lv_goto (tgt := 5) hx hb d_R_third_47 rfl ?_
      exact ih5 _ (by omega) (t := t + 1) (o := o) (g := g) (ls := ls) (H := H) (locs := locs) (hS := hS) (hl := lv_sub hl [1, 2, 3, 4, 0] rfl) (hP := hP) (hD := hD) (hle := (by omega)) (hI := (ec_I1_no hI h22)) (hk5 := rfl)
    · generalize hqvb : o = ovb at hl ⊢
      cases ovb with
      | none =>
        replace hl : lv_has ls 10 [(0, .ref (a 0)), (1, .int (nI i)), (2, .int (nI j)), (3, .int (-1)), (4, .int (nI t))] := hl
        refine lv_iload_n hx hb d_R_third_25 rfl (lv_at hl 3 rfl) ?_
        refine lv_if_lt (tgt := 41) hx hb d_R_third_26 rfl (fun h26 => ?_) (fun h26 => ?_)
        · refine lv_iload hx hb d_R_third_41 (lv_at hl 4 rfl) ?_
          refine lv_istore_n hx hb d_R_third_43 rfl hl (by decide) rfl (fun ls hl => ?_)
          replace hl : lv_has ls 10 [(3, .int (nI t)), (0, .ref (a 0)), (1, .int (nI i)), (2, .int (nI j)), (4, .int (nI t))] := hl
          refine ec_iinc (k := 4) hx hb d_R_third_44 hl rfl (by decide) rfl (fun ls hl => ?_)
          replace hl : lv_has ls 10 [(4, .int (nI (t + 1))), (3, .int (nI t)), (0, .ref (a 0)), (1, .int (nI i)), (2, .int (nI j))] := hl
          refine lv_goto (tgt := 5) hx hb d_R_third_47 rfl ?_
          exact ih5 _ (by omega) (t := t + 1) (o := some t) (g := g) (ls := ls) (H := H) (locs := locs) (hS := hS) (hl := lv_sub hl [2, 3, 4, 1, 0] rfl) (hP := hP) (hD := hD) (hle := (by omega)) (hI := (by rw [hqvb] at hI; exact ec_I1_first hI h22)) (hk5 := rfl)
        · exact absurd (by decide) h26
      | some vb =>
        replace hl : lv_has ls 10 [(0, .ref (a 0)), (1, .int (nI i)), (2, .int (nI j)), (3, .int (nI vb)), (4, .int (nI t))] := hl
        have hvb := (hI.2 vb hqvb).1
        refine lv_iload_n hx hb d_R_third_25 rfl (lv_at hl 3 rfl) ?_
        refine ec_if_lt (tgt := 41) hx hb d_R_third_26 rfl (by omega) ?_
        refine lv_aload_n hx hb d_R_third_29 rfl (lv_at hl 0 rfl) ?_
        refine lv_iload_n hx hb d_R_third_30 rfl (lv_at hl 1 rfl) ?_
        refine lv_iload_n hx hb d_R_third_31 rfl (lv_at hl 2 rfl) ?_
        refine lv_iload_n hx hb d_R_third_32 rfl (lv_at hl 3 rfl) ?_
        refine lv_iload hx hb d_R_third_33 (lv_at hl 4 rfl) ?_
        refine ec_vQi (C := "ExactMeshModel") (ci := 5) (q := (R_R, T_R, 18)) (q0 := 0) (As := [.int (nI i), .int (nI j), .int (nI vb), .int (nI t)]) (rest := []) ⟨hx, hb, hml, hown, htb⟩ (c_R_circle l dC dI a cI cZ cJ rn rx ry rl rf rt rh gx gy rc w1 w2 w3 rg rk kc kf g rest i j vb t g12 gN (by omega) (by omega) (by omega) (by omega) A hD) kv_R_circle hK hP rfl rfl rfl hS wd_561 ⟨Nat.le_of_ble_eq_true rfl, Nat.le_of_ble_eq_true rfl⟩ ⟨rfl, rfl⟩ rfl hl.1 rfl (Nat.le_of_ble_eq_true rfl) d_R_third_35 ⟨Nat.zero_le _, Nat.zero_le _⟩ (fun r35 ur35 H locs hr35 hP hS => ?_)
        replace hr35 : r35 = ec_sgn (ec_circ rx ry i j vb t) := hr35
        replace hP : va_P (dC, dI) vwCl (wR a cI cZ cJ rn rx ry rl rf rt rh gx gy rc w1 w2 w3 rg rk kc kf ur35 ++ rest) H := hP
        replace hD : va_D A (wR a cI cZ cJ rn rx ry rl rf rt rh gx gy rc w1 w2 w3 rg rk kc kf ur35 ++ rest) := ec_Dk hD rfl
        subst hr35
        refine lv_if_le (tgt := 44) hx hb d_R_third_38 rfl (fun h38 => ?_) (fun h38 => ?_)
        · refine ec_iinc (k := 4) hx hb d_R_third_44 hl rfl (by decide) rfl (fun ls hl => ?_)
          replace hl : lv_has ls 10 [(4, .int (nI (t + 1))), (0, .ref (a 0)), (1, .int (nI i)), (2, .int (nI j)), (3, .int (nI vb))] := hl
          refine lv_goto (tgt := 5) hx hb d_R_third_47 rfl ?_
          exact ih5 _ (by omega) (t := t + 1) (o := some vb) (g := ur35) (ls := ls) (H := H) (locs := locs) (hS := hS) (hl := lv_sub hl [1, 2, 3, 4, 0] rfl) (hP := hP) (hD := hD) (hle := (by omega)) (hI := (by rw [hqvb] at hI; exact ec_I1_keep gS.2.2.1 g12 (fun i hi => (gN i hi).1) (fun i hi => (gN i hi).2) hi hj h11 hI (Int.not_lt.mpr ((ec_sgn_le _).mp h38)))) (hk5 := rfl)
        · refine lv_iload hx hb d_R_third_41 (lv_at hl 4 rfl) ?_
          refine lv_istore_n hx hb d_R_third_43 rfl hl (by decide) rfl (fun ls hl => ?_)
          replace hl : lv_has ls 10 [(3, .int (nI t)), (0, .ref (a 0)), (1, .int (nI i)), (2, .int (nI j)), (4, .int (nI t))] := hl
          refine ec_iinc (k := 4) hx hb d_R_third_44 hl rfl (by decide) rfl (fun ls hl => ?_)
          replace hl : lv_has ls 10 [(4, .int (nI (t + 1))), (3, .int (nI t)), (0, .ref (a 0)), (1, .int (nI i)), (2, .int (nI j))] := hl
          refine lv_goto (tgt := 5) hx hb d_R_third_47 rfl ?_
          exact ih5 _ (by omega) (t := t + 1) (o := some t) (g := ur35) (ls := ls) (H := H) (locs := locs) (hS := hS) (hl := lv_sub hl [2, 3, 4, 1, 0] rfl) (hP := hP) (hD := hD) (hle := (by omega)) (hI := (by rw [hqvb] at hI; exact ec_I1_take gS.2.2.1 g12 (fun i hi => (gN i hi).1) (fun i hi => (gN i hi).2) hi hj h11 hI h22 (Int.not_le.mp (fun z => h38 ((ec_sgn_le _).mpr z))))) (hk5 := rfl)

set_option maxRecDepth 100000 in
set_option maxHeartbeats 4000000 in
theorem c_R_has (l : Launch) (dC : Nat → ClassId) (dI : Nat → Nat → Nat) (a : Nat → Nat) (cI cZ cJ : ClassId) (rn : Nat) (rx : Nat → Int32) (ry : Nat → Int32) (rl : Nat) (rf : Nat → Nat) (rt : Nat → Nat) (rh : Nat) (gx : Nat → Int32) (gy : Nat → Int32) (rc : Nat) (w1 : Nat → Nat) (w2 : Nat → Nat) (w3 : Nat → Nat) (rg : Nat → Prop) (rk : Nat) (kc : Nat → Nat) (kf : Nat → Prop) (kp : Nat → Int64) (rest : va_W) (i : Nat) (j : Nat) (k : Nat) (g12 : rn ≤ 12) (gw : ∀ t, t < rc → w1 t < rn ∧ w2 t < rn ∧ w3 t < rn) (grc : rc ≤ 24) (hi : i < rn) (hj : j < rn) (hk : k < rn) : Met l y_R_has (Cond.code y_R_has b_R_has 7 (some .boolean) :: ec_tbl) ({ frames := 0, cells := 0, slots := 0, locals := 0 }) (va_Pc [.ref (a 0), .int (nI i), .int (nI j), .int (nI k)] (fun U => va_P (dC, dI) vwCl (wR a cI cZ cJ rn rx ry rl rf rt rh gx gy rc w1 w2 w3 rg rk kc kf kp ++ rest) U.heap ∧ va_K (dC, dI) vwCl (ec_tys cI cZ cJ) U)) (vp_Si (fun r : Int32 => ec_isB r (ec_fnd rc w1 w2 w3 i j k))) 0 0 (fun _ => False) := by
  refine Met.ofW (cc := b_R_has) (maxL := 7) (ret := (some .boolean)) (by decide) rfl ?_
  intro p e s m args below meth c s₁ B hml hv0
  obtain ⟨rfl, hP, hK⟩ := hv0
  have hx := B.exec
  have hb := B.bytes
  have hr := B.returns
  have hts := atoms_spec (ws := (Cond.code y_R_has b_R_has 7 (some .boolean) :: ec_tbl)) B.pre
  have htb : ∀ w ∈ ec_tbl, w.before _ s = true := fun w h => hts w (List.mem_cons_of_mem _ h)
  clear hts
  have hown : s.vm.findClass "ExactMeshModel" = some m.cls := findClass_of_methodNamed B.named
  have hlocks := B.notSynchronized
  have hl := lv_entry ([.ref (a 0), .int (nI i), .int (nI j), .int (nI k)]) (n := 7) (Nat.le_of_ble_eq_true rfl)
  rw [lg_entry_eq]
  generalize (lg_sl ([.ref (a 0), .int (nI i), .int (nI j), .int (nI k)]) ++ List.replicate (7 - (lg_sl ([.ref (a 0), .int (nI i), .int (nI j), .int (nI k)])).length) Slot.unset).toArray = ls at hl ⊢
  replace hl : lv_has ls 7 [(0, .ref (a 0)), (1, .int (nI i)), (2, .int (nI j)), (3, .int (nI k))] := hl
  refine lv_iconst (v := nI 0) hx hb d_R_has_0 (by decide) ?_
  refine lv_istore hx hb d_R_has_1 hl (by decide) rfl (fun ls hl => ?_)
  replace hl : lv_has ls 7 [(4, .int (nI 0)), (0, .ref (a 0)), (1, .int (nI i)), (2, .int (nI j)), (3, .int (nI k))] := hl
  refine lv_iconst (v := nI 0) hx hb d_R_has_3 (by decide) ?_
  refine lv_istore hx hb d_R_has_4 hl (by decide) rfl (fun ls hl => ?_)
  replace hl : lv_has ls 7 [(5, .int (nI 0)), (4, .int (nI 0)), (0, .ref (a 0)), (1, .int (nI i)), (2, .int (nI j)), (3, .int (nI k))] := hl
  obtain ⟨t, e_t⟩ : ∃ z : Nat, z = 0 := ⟨_, rfl⟩
  obtain ⟨f, e_f⟩ : ∃ z : Nat, z = 0 := ⟨_, rfl⟩
  replace hl : lv_has ls 7 [(0, .ref (a 0)), (1, .int (nI i)), (2, .int (nI j)), (3, .int (nI k)), (4, .int (nI f)), (5, .int (nI t))] := by (try simp only [e_t, e_f]); exact lv_sub hl [2, 3, 4, 5, 1, 0] rfl
  have hle : t ≤ rc := by omega
  have hf : f ≤ 1 := by omega
  have hI : (f = 0 → ¬ ec_fnd t w1 w2 w3 i j k) ∧ (¬ f = 0 → ec_fnd t w1 w2 w3 i j k) := by rw [e_t, e_f]; exact ⟨fun _ => ec_fnd_0, fun q => absurd rfl q⟩
  clear e_f e_t
  generalize hk6 : rc - t = k6
  induction k6 using Nat.strongRecOn generalizing t f ls with
  | ind k6 ih6 =>
  refine lv_iload hx hb d_R_has_6 (lv_at hl 5 rfl) ?_
  refine lv_aload_n hx hb d_R_has_8 rfl (lv_at hl 0 rfl) ?_
  refine va_get (D := (dC, dI)) (ci := 5) (v := .int (nI rc)) (C := R_R) (T := T_R) (N := 18) hx hb htb in_R hown hK hP 0 rfl rfl 9 (by decide) (htb _ wd_458) (fun _ h9 => h9) rfl d_R_has_9 ?_
  refine ec_icmp_ge (tgt := 156) hx hb d_R_has_12 rfl (by omega) (by omega) (fun h12 => ?_) (fun h12 => ?_)
  · refine lv_iload hx hb d_R_has_156 (lv_at hl 4 rfl) ?_
    exact W.zret hx hb hr (ec_nar01 hf) (fun tS ht hW => ⟨_, rfl, (by rw [show t = rc by omega] at hI; exact ec_isB_n hf hI), ht⟩) (fun _ h => nomatch h) d_R_has_158
  · have q0 := gw t (by omega)
    refine lv_aload_n hx hb d_R_has_15 rfl (lv_at hl 0 rfl) ?_
    refine va_get (D := (dC, dI)) (ci := 5) (v := .ref (a 7)) (C := R_R) (T := T_R) (N := 18) hx hb htb in_R hown hK hP 0 rfl rfl 10 (by decide) (htb _ wd_459) (fun _ h9 => h9) rfl d_R_has_16 ?_
    refine lv_iload hx hb d_R_has_19 (lv_at hl 5 rfl) ?_
    refine ec_ialdN (f := w1) (i := t) hx hb hK hP 7 0 rfl rfl (by omega) (by decide) d_R_has_21 ?_
    refine lv_iload_n hx hb d_R_has_22 rfl (lv_at hl 1 rfl) ?_
    refine ec_icmp_ne (tgt := 52) hx hb d_R_has_23 rfl (by omega) (by omega) (fun h23 => ?_) (fun h23 => ?_)
    · refine lv_iconst (v := nI 0) hx hb d_R_has_52 (by decide) ?_
      refine lv_istore hx hb d_R_has_53 hl (by decide) rfl (fun ls hl => ?_)
      replace hl : lv_has ls 7 [(6, .int (nI 0)), (0, .ref (a 0)), (1, .int (nI i)), (2, .int (nI j)), (3, .int (nI k)), (4, .int (nI f)), (5, .int (nI t))] := hl
      refine lv_iload hx hb d_R_has_55 (lv_at hl 0 rfl) ?_
      refine ec_if_ne (tgt := 93) hx hb d_R_has_57 rfl (by omega) (fun h57 => ?_) (fun h57 => ?_)
      · exact absurd h57 (by decide)
      · refine lv_aload_n hx hb d_R_has_60 rfl (lv_at hl 1 rfl) ?_
        refine va_get (D := (dC, dI)) (ci := 5) (v := .ref (a 7)) (C := R_R) (T := T_R) (N := 18) hx hb htb in_R hown hK hP 0 rfl rfl 10 (by decide) (htb _ wd_459) (fun _ h9 => h9) rfl d_R_has_61 ?_
        refine lv_iload hx hb d_R_has_64 (lv_at hl 6 rfl) ?_
        refine ec_ialdN (f := w1) (i := t) hx hb hK hP 7 0 rfl rfl (by omega) (by decide) d_R_has_66 ?_
        refine lv_iload_n hx hb d_R_has_67 rfl (lv_at hl 3 rfl) ?_
        refine ec_icmp_ne (tgt := 97) hx hb d_R_has_68 rfl (by omega) (by omega) (fun h68 => ?_) (fun h68 => ?_)
        · refine lv_iconst (v := nI 0) hx hb d_R_has_97 (by decide) ?_
          refine lv_istore hx hb d_R_has_98 hl (by decide) rfl (fun ls hl => ?_)
          replace hl : lv_has ls 7 [(6, .int (nI 0)), (0, .ref (a 0)), (1, .int (nI i)), (2, .int (nI j)), (3, .int (nI k)), (4, .int (nI f)), (5, .int (nI t))] := hl
          refine lv_iload hx hb d_R_has_100 (lv_at hl 5 rfl) ?_
          refine ec_if_ne (tgt := 143) hx hb d_R_has_102 rfl (by omega) (fun h102 => ?_) (fun h102 => ?_)
          · refine lv_iconst (v := nI 1) hx hb d_R_has_143 (by decide) ?_
            refine lv_goto (tgt := 148) hx hb d_R_has_144 rfl ?_
            refine lv_istore hx hb d_R_has_148 hl (by decide) rfl (fun ls hl => ?_)
            replace hl : lv_has ls 7 [(4, .int (nI 1)), (6, .int (nI 0)), (0, .ref (a 0)), (1, .int (nI i)), (2, .int (nI j)), (3, .int (nI k)), (5, .int (nI t))] := hl
            refine ec_iinc (k := 6) hx hb d_R_has_150 hl rfl (by decide) rfl (fun ls hl => ?_)
            replace hl : lv_has ls 7 [(5, .int (nI (t + 1))), (4, .int (nI 1)), (6, .int (nI 0)), (0, .ref (a 0)), (1, .int (nI i)), (2, .int (nI j)), (3, .int (nI k))] := hl
            refine lv_goto (tgt := 6) hx hb d_R_has_153 rfl ?_
            exact ih6 _ (by omega) (t := t + 1) (f := 1) (ls := ls) (hl := lv_sub hl [3, 4, 5, 6, 1, 0] rfl) (hle := (by omega)) (hf := (by omega)) (hI := ⟨fun q => absurd q (by decide), fun _ => ec_fnd_s.mpr (Or.inl (hI.2 h102))⟩) (hk6 := rfl)
          · refine lv_iload hx hb d_R_has_105 (lv_at hl 0 rfl) ?_
            refine ec_if_ne (tgt := 143) hx hb d_R_has_107 rfl (by omega) (fun h107 => ?_) (fun h107 => ?_)
            · exact absurd h107 (by decide)
            · refine lv_aload_n hx hb d_R_has_110 rfl (lv_at hl 1 rfl) ?_
              refine va_get (D := (dC, dI)) (ci := 5) (v := .ref (a 7)) (C := R_R) (T := T_R) (N := 18) hx hb htb in_R hown hK hP 0 rfl rfl 10 (by decide) (htb _ wd_459) (fun _ h9 => h9) rfl d_R_has_111 ?_
              refine lv_iload hx hb d_R_has_114 (lv_at hl 6 rfl) ?_
              refine ec_ialdN (f := w1) (i := t) hx hb hK hP 7 0 rfl rfl (by omega) (by decide) d_R_has_116 ?_
              refine lv_iload_n hx hb d_R_has_117 rfl (lv_at hl 4 rfl) ?_
              refine ec_icmp_ne (tgt := 147) hx hb d_R_has_118 rfl (by omega) (by omega) (fun h118 => ?_) (fun h118 => ?_)
              · refine lv_iconst (v := nI 0) hx hb d_R_has_147 (by decide) ?_
                refine lv_istore hx hb d_R_has_148 hl (by decide) rfl (fun ls hl => ?_)
                replace hl : lv_has ls 7 [(4, .int (nI 0)), (6, .int (nI 0)), (0, .ref (a 0)), (1, .int (nI i)), (2, .int (nI j)), (3, .int (nI k)), (5, .int (nI t))] := hl
                refine ec_iinc (k := 6) hx hb d_R_has_150 hl rfl (by decide) rfl (fun ls hl => ?_)
                replace hl : lv_has ls 7 [(5, .int (nI (t + 1))), (4, .int (nI 0)), (6, .int (nI 0)), (0, .ref (a 0)), (1, .int (nI i)), (2, .int (nI j)), (3, .int (nI k))] := hl
                refine lv_goto (tgt := 6) hx hb d_R_has_153 rfl ?_
                exact ih6 _ (by omega) (t := t + 1) (f := 0) (ls := ls) (hl := lv_sub hl [3, 4, 5, 6, 1, 0] rfl) (hle := (by omega)) (hf := (by omega)) (hI := ⟨fun _ q => by rcases ec_fnd_s.mp q with q | q; exact hI.1 h102 q; unfold ec_rot3 at q; omega, fun q => absurd rfl q⟩) (hk6 := rfl)
              · refine lv_aload_n hx hb d_R_has_121 rfl (lv_at hl 1 rfl) ?_
                refine va_get (D := (dC, dI)) (ci := 5) (v := .ref (a 8)) (C := R_R) (T := T_R) (N := 18) hx hb htb in_R hown hK hP 0 rfl rfl 11 (by decide) (htb _ wd_460) (fun _ h9 => h9) rfl d_R_has_122 ?_
                refine lv_iload hx hb d_R_has_125 (lv_at hl 6 rfl) ?_
                refine ec_ialdN (f := w2) (i := t) hx hb hK hP 8 0 rfl rfl (by omega) (by decide) d_R_has_127 ?_
                refine lv_iload_n hx hb d_R_has_128 rfl (lv_at hl 2 rfl) ?_
                refine ec_icmp_ne (tgt := 147) hx hb d_R_has_129 rfl (by omega) (by omega) (fun h129 => ?_) (fun h129 => ?_)
                · refine lv_iconst (v := nI 0) hx hb d_R_has_147 (by decide) ?_
                  refine lv_istore hx hb d_R_has_148 hl (by decide) rfl (fun ls hl => ?_)
                  replace hl : lv_has ls 7 [(4, .int (nI 0)), (6, .int (nI 0)), (0, .ref (a 0)), (1, .int (nI i)), (2, .int (nI j)), (3, .int (nI k)), (5, .int (nI t))] := hl
                  refine ec_iinc (k := 6) hx hb d_R_has_150 hl rfl (by decide) rfl (fun ls hl => ?_)
                  replace hl : lv_has ls 7 [(5, .int (nI (t + 1))), (4, .int (nI 0)), (6, .int (nI 0)), (0, .ref (a 0)), (1, .int (nI i)), (2, .int (nI j)), (3, .int (nI k))] := hl
                  refine lv_goto (tgt := 6) hx hb d_R_has_153 rfl ?_
                  exact ih6 _ (by omega) (t := t + 1) (f := 0) (ls := ls) (hl := lv_sub hl [3, 4, 5, 6, 1, 0] rfl) (hle := (by omega)) (hf := (by omega)) (hI := ⟨fun _ q => by rcases ec_fnd_s.mp q with q | q; exact hI.1 h102 q; unfold ec_rot3 at q; omega, fun q => absurd rfl q⟩) (hk6 := rfl)
                · refine lv_aload_n hx hb d_R_has_132 rfl (lv_at hl 1 rfl) ?_
                  refine va_get (D := (dC, dI)) (ci := 5) (v := .ref (a 9)) (C := R_R) (T := T_R) (N := 18) hx hb htb in_R hown hK hP 0 rfl rfl 12 (by decide) (htb _ wd_461) (fun _ h9 => h9) rfl d_R_has_133 ?_
                  refine lv_iload hx hb d_R_has_136 (lv_at hl 6 rfl) ?_
                  refine ec_ialdN (f := w3) (i := t) hx hb hK hP 9 0 rfl rfl (by omega) (by decide) d_R_has_138 ?_
                  refine lv_iload_n hx hb d_R_has_139 rfl (lv_at hl 3 rfl) ?_
                  refine ec_icmp_ne (tgt := 147) hx hb d_R_has_140 rfl (by omega) (by omega) (fun h140 => ?_) (fun h140 => ?_)
                  · refine lv_iconst (v := nI 0) hx hb d_R_has_147 (by decide) ?_
                    refine lv_istore hx hb d_R_has_148 hl (by decide) rfl (fun ls hl => ?_)
                    replace hl : lv_has ls 7 [(4, .int (nI 0)), (6, .int (nI 0)), (0, .ref (a 0)), (1, .int (nI i)), (2, .int (nI j)), (3, .int (nI k)), (5, .int (nI t))] := hl
                    refine ec_iinc (k := 6) hx hb d_R_has_150 hl rfl (by decide) rfl (fun ls hl => ?_)
                    replace hl : lv_has ls 7 [(5, .int (nI (t + 1))), (4, .int (nI 0)), (6, .int (nI 0)), (0, .ref (a 0)), (1, .int (nI i)), (2, .int (nI j)), (3, .int (nI k))] := hl
                    refine lv_goto (tgt := 6) hx hb d_R_has_153 rfl ?_
                    exact ih6 _ (by omega) (t := t + 1) (f := 0) (ls := ls) (hl := lv_sub hl [3, 4, 5, 6, 1, 0] rfl) (hle := (by omega)) (hf := (by omega)) (hI := ⟨fun _ q => by rcases ec_fnd_s.mp q with q | q; exact hI.1 h102 q; unfold ec_rot3 at q; omega, fun q => absurd rfl q⟩) (hk6 := rfl)
                  · refine lv_iconst (v := nI 1) hx hb d_R_has_143 (by decide) ?_
                    refine lv_goto (tgt := 148) hx hb d_R_has_144 rfl ?_
                    refine lv_istore hx hb d_R_has_148 hl (by decide) rfl (fun ls hl => ?_)
                    replace hl : lv_has ls 7 [(4, .int (nI 1)), (6, .int (nI 0)), (0, .ref (a 0)), (1, .int (nI i)), (2, .int (nI j)), (3, .int (nI k)), (5, .int (nI t))] := hl
                    refine ec_iinc (k := 6) hx hb d_R_has_150 hl rfl (by decide) rfl (fun ls hl => ?_)
                    replace hl : lv_has ls 7 [(5, .int (nI (t + 1))), (4, .int (nI 1)), (6, .int (nI 0)), (0, .ref (a 0)), (1, .int (nI i)), (2, .int (nI j)), (3, .int (nI k))] := hl
                    refine lv_goto (tgt := 6) hx hb d_R_has_153 rfl ?_
                    exact ih6 _ (by omega) (t := t + 1) (f := 1) (ls := ls) (hl := lv_sub hl [3, 4, 5, 6, 1, 0] rfl) (hle := (by omega)) (hf := (by omega)) (hI := ⟨fun q => absurd q (by decide), fun _ => ec_fnd_s.mpr (Or.inr (by unfold ec_rot3; omega))⟩) (hk6 := rfl)
        · refine lv_aload_n hx hb d_R_has_71 rfl (lv_at hl 1 rfl) ?_
          refine va_get (D := (dC, dI)) (ci := 5) (v := .ref (a 8)) (C := R_R) (T := T_R) (N := 18) hx hb htb in_R hown hK hP 0 rfl rfl 11 (by decide) (htb _ wd_460) (fun _ h9 => h9) rfl d_R_has_72 ?_
          refine lv_iload hx hb d_R_has_75 (lv_at hl 6 rfl) ?_
          refine ec_ialdN (f := w2) (i := t) hx hb hK hP 8 0 rfl rfl (by omega) (by decide) d_R_has_77 ?_
          refine lv_iload_n hx hb d_R_has_78 rfl (lv_at hl 4 rfl) ?_
          refine ec_icmp_ne (tgt := 97) hx hb d_R_has_79 rfl (by omega) (by omega) (fun h79 => ?_) (fun h79 => ?_)
          · refine lv_iconst (v := nI 0) hx hb d_R_has_97 (by decide) ?_
            refine lv_istore hx hb d_R_has_98 hl (by decide) rfl (fun ls hl => ?_)
            replace hl : lv_has ls 7 [(6, .int (nI 0)), (0, .ref (a 0)), (1, .int (nI i)), (2, .int (nI j)), (3, .int (nI k)), (4, .int (nI f)), (5, .int (nI t))] := hl
            refine lv_iload hx hb d_R_has_100 (lv_at hl 5 rfl) ?_
            refine ec_if_ne (tgt := 143) hx hb d_R_has_102 rfl (by omega) (fun h102_1 => ?_) (fun h102_1 => ?_)
            · refine lv_iconst (v := nI 1) hx hb d_R_has_143 (by decide) ?_
              refine lv_goto (tgt := 148) hx hb d_R_has_144 rfl ?_
              refine lv_istore hx hb d_R_has_148 hl (by decide) rfl (fun ls hl => ?_)
              replace hl : lv_has ls 7 [(4, .int (nI 1)), (6, .int (nI 0)), (0, .ref (a 0)), (1, .int (nI i)), (2, .int (nI j)), (3, .int (nI k)), (5, .int (nI t))] := hl
              refine ec_iinc (k := 6) hx hb d_R_has_150 hl rfl (by decide) rfl (fun ls hl => ?_)
              replace hl : lv_has ls 7 [(5, .int (nI (t + 1))), (4, .int (nI 1)), (6, .int (nI 0)), (0, .ref (a 0)), (1, .int (nI i)), (2, .int (nI j)), (3, .int (nI k))] := hl
              refine lv_goto (tgt := 6) hx hb d_R_has_153 rfl ?_
              exact ih6 _ (by omega) (t := t + 1) (f := 1) (ls := ls) (hl := lv_sub hl [3, 4, 5, 6, 1, 0] rfl) (hle := (by omega)) (hf := (by omega)) (hI := ⟨fun q => absurd q (by decide), fun _ => ec_fnd_s.mpr (Or.inl (hI.2 h102_1))⟩) (hk6 := rfl)
            · refine lv_iload hx hb d_R_has_105 (lv_at hl 0 rfl) ?_
              refine ec_if_ne (tgt := 143) hx hb d_R_has_107 rfl (by omega) (fun h107_1 => ?_) (fun h107_1 => ?_)
              · exact absurd h107_1 (by decide)
              · refine lv_aload_n hx hb d_R_has_110 rfl (lv_at hl 1 rfl) ?_
                refine va_get (D := (dC, dI)) (ci := 5) (v := .ref (a 7)) (C := R_R) (T := T_R) (N := 18) hx hb htb in_R hown hK hP 0 rfl rfl 10 (by decide) (htb _ wd_459) (fun _ h9 => h9) rfl d_R_has_111 ?_
                refine lv_iload hx hb d_R_has_114 (lv_at hl 6 rfl) ?_
                refine ec_ialdN (f := w1) (i := t) hx hb hK hP 7 0 rfl rfl (by omega) (by decide) d_R_has_116 ?_
                refine lv_iload_n hx hb d_R_has_117 rfl (lv_at hl 4 rfl) ?_
                refine ec_icmp_ne (tgt := 147) hx hb d_R_has_118 rfl (by omega) (by omega) (fun h118_1 => ?_) (fun h118_1 => ?_)
                · refine lv_iconst (v := nI 0) hx hb d_R_has_147 (by decide) ?_
                  refine lv_istore hx hb d_R_has_148 hl (by decide) rfl (fun ls hl => ?_)
                  replace hl : lv_has ls 7 [(4, .int (nI 0)), (6, .int (nI 0)), (0, .ref (a 0)), (1, .int (nI i)), (2, .int (nI j)), (3, .int (nI k)), (5, .int (nI t))] := hl
                  refine ec_iinc (k := 6) hx hb d_R_has_150 hl rfl (by decide) rfl (fun ls hl => ?_)
                  replace hl : lv_has ls 7 [(5, .int (nI (t + 1))), (4, .int (nI 0)), (6, .int (nI 0)), (0, .ref (a 0)), (1, .int (nI i)), (2, .int (nI j)), (3, .int (nI k))] := hl
                  refine lv_goto (tgt := 6) hx hb d_R_has_153 rfl ?_
                  exact ih6 _ (by omega) (t := t + 1) (f := 0) (ls := ls) (hl := lv_sub hl [3, 4, 5, 6, 1, 0] rfl) (hle := (by omega)) (hf := (by omega)) (hI := ⟨fun _ q => by rcases ec_fnd_s.mp q with q | q; exact hI.1 h102_1 q; unfold ec_rot3 at q; omega, fun q => absurd rfl q⟩) (hk6 := rfl)
                · refine lv_aload_n hx hb d_R_has_121 rfl (lv_at hl 1 rfl) ?_
                  refine va_get (D := (dC, dI)) (ci := 5) (v := .ref (a 8)) (C := R_R) (T := T_R) (N := 18) hx hb htb in_R hown hK hP 0 rfl rfl 11 (by decide) (htb _ wd_460) (fun _ h9 => h9) rfl d_R_has_122 ?_
                  refine lv_iload hx hb d_R_has_125 (lv_at hl 6 rfl) ?_
                  refine ec_ialdN (f := w2) (i := t) hx hb hK hP 8 0 rfl rfl (by omega) (by decide) d_R_has_127 ?_
                  refine lv_iload_n hx hb d_R_has_128 rfl (lv_at hl 2 rfl) ?_
                  refine ec_icmp_ne (tgt := 147) hx hb d_R_has_129 rfl (by omega) (by omega) (fun h129_1 => ?_) (fun h129_1 => ?_)
                  · refine lv_iconst (v := nI 0) hx hb d_R_has_147 (by decide) ?_
                    refine lv_istore hx hb d_R_has_148 hl (by decide) rfl (fun ls hl => ?_)
                    replace hl : lv_has ls 7 [(4, .int (nI 0)), (6, .int (nI 0)), (0, .ref (a 0)), (1, .int (nI i)), (2, .int (nI j)), (3, .int (nI k)), (5, .int (nI t))] := hl
                    refine ec_iinc (k := 6) hx hb d_R_has_150 hl rfl (by decide) rfl (fun ls hl => ?_)
                    replace hl : lv_has ls 7 [(5, .int (nI (t + 1))), (4, .int (nI 0)), (6, .int (nI 0)), (0, .ref (a 0)), (1, .int (nI i)), (2, .int (nI j)), (3, .int (nI k))] := hl
                    refine lv_goto (tgt := 6) hx hb d_R_has_153 rfl ?_
                    exact ih6 _ (by omega) (t := t + 1) (f := 0) (ls := ls) (hl := lv_sub hl [3, 4, 5, 6, 1, 0] rfl) (hle := (by omega)) (hf := (by omega)) (hI := ⟨fun _ q => by rcases ec_fnd_s.mp q with q | q; exact hI.1 h102_1 q; unfold ec_rot3 at q; omega, fun q => absurd rfl q⟩) (hk6 := rfl)
                  · refine lv_aload_n hx hb d_R_has_132 rfl (lv_at hl 1 rfl) ?_
                    refine va_get (D := (dC, dI)) (ci := 5) (v := .ref (a 9)) (C := R_R) (T := T_R) (N := 18) hx hb htb in_R hown hK hP 0 rfl rfl 12 (by decide) (htb _ wd_461) (fun _ h9 => h9) rfl d_R_has_133 ?_
                    refine lv_iload hx hb d_R_has_136 (lv_at hl 6 rfl) ?_
                    refine ec_ialdN (f := w3) (i := t) hx hb hK hP 9 0 rfl rfl (by omega) (by decide) d_R_has_138 ?_
                    refine lv_iload_n hx hb d_R_has_139 rfl (lv_at hl 3 rfl) ?_
                    refine ec_icmp_ne (tgt := 147) hx hb d_R_has_140 rfl (by omega) (by omega) (fun h140_1 => ?_) (fun h140_1 => ?_)
                    · refine lv_iconst (v := nI 0) hx hb d_R_has_147 (by decide) ?_
                      refine lv_istore hx hb d_R_has_148 hl (by decide) rfl (fun ls hl => ?_)
                      replace hl : lv_has ls 7 [(4, .int (nI 0)), (6, .int (nI 0)), (0, .ref (a 0)), (1, .int (nI i)), (2, .int (nI j)), (3, .int (nI k)), (5, .int (nI t))] := hl
                      refine ec_iinc (k := 6) hx hb d_R_has_150 hl rfl (by decide) rfl (fun ls hl => ?_)
                      replace hl : lv_has ls 7 [(5, .int (nI (t + 1))), (4, .int (nI 0)), (6, .int (nI 0)), (0, .ref (a 0)), (1, .int (nI i)), (2, .int (nI j)), (3, .int (nI k))] := hl
                      refine lv_goto (tgt := 6) hx hb d_R_has_153 rfl ?_
                      exact ih6 _ (by omega) (t := t + 1) (f := 0) (ls := ls) (hl := lv_sub hl [3, 4, 5, 6, 1, 0] rfl) (hle := (by omega)) (hf := (by omega)) (hI := ⟨fun _ q => by rcases ec_fnd_s.mp q with q | q; exact hI.1 h102_1 q; unfold ec_rot3 at q; omega, fun q => absurd rfl q⟩) (hk6 := rfl)
                    · refine lv_iconst (v := nI 1) hx hb d_R_has_143 (by decide) ?_
                      refine lv_goto (tgt := 148) hx hb d_R_has_144 rfl ?_
                      refine lv_istore hx hb d_R_has_148 hl (by decide) rfl (fun ls hl => ?_)
                      replace hl : lv_has ls 7 [(4, .int (nI 1)), (6, .int (nI 0)), (0, .ref (a 0)), (1, .int (nI i)), (2, .int (nI j)), (3, .int (nI k)), (5, .int (nI t))] := hl
                      refine ec_iinc (k := 6) hx hb d_R_has_150 hl rfl (by decide) rfl (fun ls hl => ?_)
                      replace hl : lv_has ls 7 [(5, .int (nI (t + 1))), (4, .int (nI 1)), (6, .int (nI 0)), (0, .ref (a 0)), (1, .int (nI i)), (2, .int (nI j)), (3, .int (nI k))] := hl
                      refine lv_goto (tgt := 6) hx hb d_R_has_153 rfl ?_
                      exact ih6 _ (by omega) (t := t + 1) (f := 1) (ls := ls) (hl := lv_sub hl [3, 4, 5, 6, 1, 0] rfl) (hle := (by omega)) (hf := (by omega)) (hI := ⟨fun q => absurd q (by decide), fun _ => ec_fnd_s.mpr (Or.inr (by unfold ec_rot3; omega))⟩) (hk6 := rfl)
          · refine lv_aload_n hx hb d_R_has_82 rfl (lv_at hl 1 rfl) ?_
            refine va_get (D := (dC, dI)) (ci := 5) (v := .ref (a 9)) (C := R_R) (T := T_R) (N := 18) hx hb htb in_R hown hK hP 0 rfl rfl 12 (by decide) (htb _ wd_461) (fun _ h9 => h9) rfl d_R_has_83 ?_
            refine lv_iload hx hb d_R_has_86 (lv_at hl 6 rfl) ?_
            refine ec_ialdN (f := w3) (i := t) hx hb hK hP 9 0 rfl rfl (by omega) (by decide) d_R_has_88 ?_
            refine lv_iload_n hx hb d_R_has_89 rfl (lv_at hl 2 rfl) ?_
            refine ec_icmp_ne (tgt := 97) hx hb d_R_has_90 rfl (by omega) (by omega) (fun h90 => ?_) (fun h90 => ?_)
            · refine lv_iconst (v := nI 0) hx hb d_R_has_97 (by decide) ?_
              refine lv_istore hx hb d_R_has_98 hl (by decide) rfl (fun ls hl => ?_)
              replace hl : lv_has ls 7 [(6, .int (nI 0)), (0, .ref (a 0)), (1, .int (nI i)), (2, .int (nI j)), (3, .int (nI k)), (4, .int (nI f)), (5, .int (nI t))] := hl
              refine lv_iload hx hb d_R_has_100 (lv_at hl 5 rfl) ?_
              refine ec_if_ne (tgt := 143) hx hb d_R_has_102 rfl (by omega) (fun h102_2 => ?_) (fun h102_2 => ?_)
              · refine lv_iconst (v := nI 1) hx hb d_R_has_143 (by decide) ?_
                refine lv_goto (tgt := 148) hx hb d_R_has_144 rfl ?_
                refine lv_istore hx hb d_R_has_148 hl (by decide) rfl (fun ls hl => ?_)
                replace hl : lv_has ls 7 [(4, .int (nI 1)), (6, .int (nI 0)), (0, .ref (a 0)), (1, .int (nI i)), (2, .int (nI j)), (3, .int (nI k)), (5, .int (nI t))] := hl
                refine ec_iinc (k := 6) hx hb d_R_has_150 hl rfl (by decide) rfl (fun ls hl => ?_)
                replace hl : lv_has ls 7 [(5, .int (nI (t + 1))), (4, .int (nI 1)), (6, .int (nI 0)), (0, .ref (a 0)), (1, .int (nI i)), (2, .int (nI j)), (3, .int (nI k))] := hl
                refine lv_goto (tgt := 6) hx hb d_R_has_153 rfl ?_
                exact ih6 _ (by omega) (t := t + 1) (f := 1) (ls := ls) (hl := lv_sub hl [3, 4, 5, 6, 1, 0] rfl) (hle := (by omega)) (hf := (by omega)) (hI := ⟨fun q => absurd q (by decide), fun _ => ec_fnd_s.mpr (Or.inl (hI.2 h102_2))⟩) (hk6 := rfl)
              · refine lv_iload hx hb d_R_has_105 (lv_at hl 0 rfl) ?_
                refine ec_if_ne (tgt := 143) hx hb d_R_has_107 rfl (by omega) (fun h107_2 => ?_) (fun h107_2 => ?_)
                · exact absurd h107_2 (by decide)
                · refine lv_aload_n hx hb d_R_has_110 rfl (lv_at hl 1 rfl) ?_
                  refine va_get (D := (dC, dI)) (ci := 5) (v := .ref (a 7)) (C := R_R) (T := T_R) (N := 18) hx hb htb in_R hown hK hP 0 rfl rfl 10 (by decide) (htb _ wd_459) (fun _ h9 => h9) rfl d_R_has_111 ?_
                  refine lv_iload hx hb d_R_has_114 (lv_at hl 6 rfl) ?_
                  refine ec_ialdN (f := w1) (i := t) hx hb hK hP 7 0 rfl rfl (by omega) (by decide) d_R_has_116 ?_
                  refine lv_iload_n hx hb d_R_has_117 rfl (lv_at hl 4 rfl) ?_
                  refine ec_icmp_ne (tgt := 147) hx hb d_R_has_118 rfl (by omega) (by omega) (fun h118_2 => ?_) (fun h118_2 => ?_)
                  · refine lv_iconst (v := nI 0) hx hb d_R_has_147 (by decide) ?_
                    refine lv_istore hx hb d_R_has_148 hl (by decide) rfl (fun ls hl => ?_)
                    replace hl : lv_has ls 7 [(4, .int (nI 0)), (6, .int (nI 0)), (0, .ref (a 0)), (1, .int (nI i)), (2, .int (nI j)), (3, .int (nI k)), (5, .int (nI t))] := hl
                    refine ec_iinc (k := 6) hx hb d_R_has_150 hl rfl (by decide) rfl (fun ls hl => ?_)
                    replace hl : lv_has ls 7 [(5, .int (nI (t + 1))), (4, .int (nI 0)), (6, .int (nI 0)), (0, .ref (a 0)), (1, .int (nI i)), (2, .int (nI j)), (3, .int (nI k))] := hl
                    refine lv_goto (tgt := 6) hx hb d_R_has_153 rfl ?_
                    exact ih6 _ (by omega) (t := t + 1) (f := 0) (ls := ls) (hl := lv_sub hl [3, 4, 5, 6, 1, 0] rfl) (hle := (by omega)) (hf := (by omega)) (hI := ⟨fun _ q => by rcases ec_fnd_s.mp q with q | q; exact hI.1 h102_2 q; unfold ec_rot3 at q; omega, fun q => absurd rfl q⟩) (hk6 := rfl)
                  · refine lv_aload_n hx hb d_R_has_121 rfl (lv_at hl 1 rfl) ?_
                    refine va_get (D := (dC, dI)) (ci := 5) (v := .ref (a 8)) (C := R_R) (T := T_R) (N := 18) hx hb htb in_R hown hK hP 0 rfl rfl 11 (by decide) (htb _ wd_460) (fun _ h9 => h9) rfl d_R_has_122 ?_
                    refine lv_iload hx hb d_R_has_125 (lv_at hl 6 rfl) ?_
                    refine ec_ialdN (f := w2) (i := t) hx hb hK hP 8 0 rfl rfl (by omega) (by decide) d_R_has_127 ?_
                    refine lv_iload_n hx hb d_R_has_128 rfl (lv_at hl 2 rfl) ?_
                    refine ec_icmp_ne (tgt := 147) hx hb d_R_has_129 rfl (by omega) (by omega) (fun h129_2 => ?_) (fun h129_2 => ?_)
                    · refine lv_iconst (v := nI 0) hx hb d_R_has_147 (by decide) ?_
                      refine lv_istore hx hb d_R_has_148 hl (by decide) rfl (fun ls hl => ?_)
                      replace hl : lv_has ls 7 [(4, .int (nI 0)), (6, .int (nI 0)), (0, .ref (a 0)), (1, .int (nI i)), (2, .int (nI j)), (3, .int (nI k)), (5, .int (nI t))] := hl
                      refine ec_iinc (k := 6) hx hb d_R_has_150 hl rfl (by decide) rfl (fun ls hl => ?_)
                      replace hl : lv_has ls 7 [(5, .int (nI (t + 1))), (4, .int (nI 0)), (6, .int (nI 0)), (0, .ref (a 0)), (1, .int (nI i)), (2, .int (nI j)), (3, .int (nI k))] := hl
                      refine lv_goto (tgt := 6) hx hb d_R_has_153 rfl ?_
                      exact ih6 _ (by omega) (t := t + 1) (f := 0) (ls := ls) (hl := lv_sub hl [3, 4, 5, 6, 1, 0] rfl) (hle := (by omega)) (hf := (by omega)) (hI := ⟨fun _ q => by rcases ec_fnd_s.mp q with q | q; exact hI.1 h102_2 q; unfold ec_rot3 at q; omega, fun q => absurd rfl q⟩) (hk6 := rfl)
                    · refine lv_aload_n hx hb d_R_has_132 rfl (lv_at hl 1 rfl) ?_
                      refine va_get (D := (dC, dI)) (ci := 5) (v := .ref (a 9)) (C := R_R) (T := T_R) (N := 18) hx hb htb in_R hown hK hP 0 rfl rfl 12 (by decide) (htb _ wd_461) (fun _ h9 => h9) rfl d_R_has_133 ?_
                      refine lv_iload hx hb d_R_has_136 (lv_at hl 6 rfl) ?_
                      refine ec_ialdN (f := w3) (i := t) hx hb hK hP 9 0 rfl rfl (by omega) (by decide) d_R_has_138 ?_
                      refine lv_iload_n hx hb d_R_has_139 rfl (lv_at hl 3 rfl) ?_
                      refine ec_icmp_ne (tgt := 147) hx hb d_R_has_140 rfl (by omega) (by omega) (fun h140_2 => ?_) (fun h140_2 => ?_)
                      · refine lv_iconst (v := nI 0) hx hb d_R_has_147 (by decide) ?_
                        refine lv_istore hx hb d_R_has_148 hl (by decide) rfl (fun ls hl => ?_)
                        replace hl : lv_has ls 7 [(4, .int (nI 0)), (6, .int (nI 0)), (0, .ref (a 0)), (1, .int (nI i)), (2, .int (nI j)), (3, .int (nI k)), (5, .int (nI t))] := hl
                        refine ec_iinc (k := 6) hx hb d_R_has_150 hl rfl (by decide) rfl (fun ls hl => ?_)
                        replace hl : lv_has ls 7 [(5, .int (nI (t + 1))), (4, .int (nI 0)), (6, .int (nI 0)), (0, .ref (a 0)), (1, .int (nI i)), (2, .int (nI j)), (3, .int (nI k))] := hl
                        refine lv_goto (tgt := 6) hx hb d_R_has_153 rfl ?_
                        exact ih6 _ (by omega) (t := t + 1) (f := 0) (ls := ls) (hl := lv_sub hl [3, 4, 5, 6, 1, 0] rfl) (hle := (by omega)) (hf := (by omega)) (hI := ⟨fun _ q => by rcases ec_fnd_s.mp q with q | q; exact hI.1 h102_2 q; unfold ec_rot3 at q; omega, fun q => absurd rfl q⟩) (hk6 := rfl)
                      · refine lv_iconst (v := nI 1) hx hb d_R_has_143 (by decide) ?_
                        refine lv_goto (tgt := 148) hx hb d_R_has_144 rfl ?_
                        refine lv_istore hx hb d_R_has_148 hl (by decide) rfl (fun ls hl => ?_)
                        replace hl : lv_has ls 7 [(4, .int (nI 1)), (6, .int (nI 0)), (0, .ref (a 0)), (1, .int (nI i)), (2, .int (nI j)), (3, .int (nI k)), (5, .int (nI t))] := hl
                        refine ec_iinc (k := 6) hx hb d_R_has_150 hl rfl (by decide) rfl (fun ls hl => ?_)
                        replace hl : lv_has ls 7 [(5, .int (nI (t + 1))), (4, .int (nI 1)), (6, .int (nI 0)), (0, .ref (a 0)), (1, .int (nI i)), (2, .int (nI j)), (3, .int (nI k))] := hl
                        refine lv_goto (tgt := 6) hx hb d_R_has_153 rfl ?_
                        exact ih6 _ (by omega) (t := t + 1) (f := 1) (ls := ls) (hl := lv_sub hl [3, 4, 5, 6, 1, 0] rfl) (hle := (by omega)) (hf := (by omega)) (hI := ⟨fun q => absurd q (by decide), fun _ => ec_fnd_s.mpr (Or.inr (by unfold ec_rot3; omega))⟩) (hk6 := rfl)
            · refine lv_iconst (v := nI 1) hx hb d_R_has_93 (by decide) ?_
              refine lv_goto (tgt := 98) hx hb d_R_has_94 rfl ?_
              refine lv_istore hx hb d_R_has_98 hl (by decide) rfl (fun ls hl => ?_)
              replace hl : lv_has ls 7 [(6, .int (nI 1)), (0, .ref (a 0)), (1, .int (nI i)), (2, .int (nI j)), (3, .int (nI k)), (4, .int (nI f)), (5, .int (nI t))] := hl
              refine lv_iload hx hb d_R_has_100 (lv_at hl 5 rfl) ?_
              refine ec_if_ne (tgt := 143) hx hb d_R_has_102 rfl (by omega) (fun h102_3 => ?_) (fun h102_3 => ?_)
              · refine lv_iconst (v := nI 1) hx hb d_R_has_143 (by decide) ?_
                refine lv_goto (tgt := 148) hx hb d_R_has_144 rfl ?_
                refine lv_istore hx hb d_R_has_148 hl (by decide) rfl (fun ls hl => ?_)
                replace hl : lv_has ls 7 [(4, .int (nI 1)), (6, .int (nI 1)), (0, .ref (a 0)), (1, .int (nI i)), (2, .int (nI j)), (3, .int (nI k)), (5, .int (nI t))] := hl
                refine ec_iinc (k := 6) hx hb d_R_has_150 hl rfl (by decide) rfl (fun ls hl => ?_)
                replace hl : lv_has ls 7 [(5, .int (nI (t + 1))), (4, .int (nI 1)), (6, .int (nI 1)), (0, .ref (a 0)), (1, .int (nI i)), (2, .int (nI j)), (3, .int (nI k))] := hl
                refine lv_goto (tgt := 6) hx hb d_R_has_153 rfl ?_
                exact ih6 _ (by omega) (t := t + 1) (f := 1) (ls := ls) (hl := lv_sub hl [3, 4, 5, 6, 1, 0] rfl) (hle := (by omega)) (hf := (by omega)) (hI := ⟨fun q => absurd q (by decide), fun _ => ec_fnd_s.mpr (Or.inl (hI.2 h102_3))⟩) (hk6 := rfl)
              · refine lv_iload hx hb d_R_has_105 (lv_at hl 0 rfl) ?_
                refine ec_if_ne (tgt := 143) hx hb d_R_has_107 rfl (by omega) (fun h107_3 => ?_) (fun h107_3 => ?_)
                · refine lv_iconst (v := nI 1) hx hb d_R_has_143 (by decide) ?_
                  refine lv_goto (tgt := 148) hx hb d_R_has_144 rfl ?_
                  refine lv_istore hx hb d_R_has_148 hl (by decide) rfl (fun ls hl => ?_)
                  replace hl : lv_has ls 7 [(4, .int (nI 1)), (6, .int (nI 1)), (0, .ref (a 0)), (1, .int (nI i)), (2, .int (nI j)), (3, .int (nI k)), (5, .int (nI t))] := hl
                  refine ec_iinc (k := 6) hx hb d_R_has_150 hl rfl (by decide) rfl (fun ls hl => ?_)
                  replace hl : lv_has ls 7 [(5, .int (nI (t + 1))), (4, .int (nI 1)), (6, .int (nI 1)), (0, .ref (a 0)), (1, .int (nI i)), (2, .int (nI j)), (3, .int (nI k))] := hl
                  refine lv_goto (tgt := 6) hx hb d_R_has_153 rfl ?_
                  exact ih6 _ (by omega) (t := t + 1) (f := 1) (ls := ls) (hl := lv_sub hl [3, 4, 5, 6, 1, 0] rfl) (hle := (by omega)) (hf := (by omega)) (hI := ⟨fun q => absurd q (by decide), fun _ => ec_fnd_s.mpr (Or.inr (by unfold ec_rot3; omega))⟩) (hk6 := rfl)
                · exact absurd h107_3 (by decide)
    · refine lv_aload_n hx hb d_R_has_26 rfl (lv_at hl 0 rfl) ?_
      refine va_get (D := (dC, dI)) (ci := 5) (v := .ref (a 8)) (C := R_R) (T := T_R) (N := 18) hx hb htb in_R hown hK hP 0 rfl rfl 11 (by decide) (htb _ wd_460) (fun _ h9 => h9) rfl d_R_has_27 ?_
      refine lv_iload hx hb d_R_has_30 (lv_at hl 5 rfl) ?_
      refine ec_ialdN (f := w2) (i := t) hx hb hK hP 8 0 rfl rfl (by omega) (by decide) d_R_has_32 ?_
      refine lv_iload_n hx hb d_R_has_33 rfl (lv_at hl 2 rfl) ?_
      refine ec_icmp_ne (tgt := 52) hx hb d_R_has_34 rfl (by omega) (by omega) (fun h34 => ?_) (fun h34 => ?_)
      · refine lv_iconst (v := nI 0) hx hb d_R_has_52 (by decide) ?_
        refine lv_istore hx hb d_R_has_53 hl (by decide) rfl (fun ls hl => ?_)
        replace hl : lv_has ls 7 [(6, .int (nI 0)), (0, .ref (a 0)), (1, .int (nI i)), (2, .int (nI j)), (3, .int (nI k)), (4, .int (nI f)), (5, .int (nI t))] := hl
        refine lv_iload hx hb d_R_has_55 (lv_at hl 0 rfl) ?_
        refine ec_if_ne (tgt := 93) hx hb d_R_has_57 rfl (by omega) (fun h57_1 => ?_) (fun h57_1 => ?_)
        · exact absurd h57_1 (by decide)
        · refine lv_aload_n hx hb d_R_has_60 rfl (lv_at hl 1 rfl) ?_
          refine va_get (D := (dC, dI)) (ci := 5) (v := .ref (a 7)) (C := R_R) (T := T_R) (N := 18) hx hb htb in_R hown hK hP 0 rfl rfl 10 (by decide) (htb _ wd_459) (fun _ h9 => h9) rfl d_R_has_61 ?_
          refine lv_iload hx hb d_R_has_64 (lv_at hl 6 rfl) ?_
          refine ec_ialdN (f := w1) (i := t) hx hb hK hP 7 0 rfl rfl (by omega) (by decide) d_R_has_66 ?_
          refine lv_iload_n hx hb d_R_has_67 rfl (lv_at hl 3 rfl) ?_
          refine ec_icmp_ne (tgt := 97) hx hb d_R_has_68 rfl (by omega) (by omega) (fun h68_1 => ?_) (fun h68_1 => ?_)
          · refine lv_iconst (v := nI 0) hx hb d_R_has_97 (by decide) ?_
            refine lv_istore hx hb d_R_has_98 hl (by decide) rfl (fun ls hl => ?_)
            replace hl : lv_has ls 7 [(6, .int (nI 0)), (0, .ref (a 0)), (1, .int (nI i)), (2, .int (nI j)), (3, .int (nI k)), (4, .int (nI f)), (5, .int (nI t))] := hl
            refine lv_iload hx hb d_R_has_100 (lv_at hl 5 rfl) ?_
            refine ec_if_ne (tgt := 143) hx hb d_R_has_102 rfl (by omega) (fun h102_4 => ?_) (fun h102_4 => ?_)
            · refine lv_iconst (v := nI 1) hx hb d_R_has_143 (by decide) ?_
              refine lv_goto (tgt := 148) hx hb d_R_has_144 rfl ?_
              refine lv_istore hx hb d_R_has_148 hl (by decide) rfl (fun ls hl => ?_)
              replace hl : lv_has ls 7 [(4, .int (nI 1)), (6, .int (nI 0)), (0, .ref (a 0)), (1, .int (nI i)), (2, .int (nI j)), (3, .int (nI k)), (5, .int (nI t))] := hl
              refine ec_iinc (k := 6) hx hb d_R_has_150 hl rfl (by decide) rfl (fun ls hl => ?_)
              replace hl : lv_has ls 7 [(5, .int (nI (t + 1))), (4, .int (nI 1)), (6, .int (nI 0)), (0, .ref (a 0)), (1, .int (nI i)), (2, .int (nI j)), (3, .int (nI k))] := hl
              refine lv_goto (tgt := 6) hx hb d_R_has_153 rfl ?_
              exact ih6 _ (by omega) (t := t + 1) (f := 1) (ls := ls) (hl := lv_sub hl [3, 4, 5, 6, 1, 0] rfl) (hle := (by omega)) (hf := (by omega)) (hI := ⟨fun q => absurd q (by decide), fun _ => ec_fnd_s.mpr (Or.inl (hI.2 h102_4))⟩) (hk6 := rfl)
            · refine lv_iload hx hb d_R_has_105 (lv_at hl 0 rfl) ?_
              refine ec_if_ne (tgt := 143) hx hb d_R_has_107 rfl (by omega) (fun h107_4 => ?_) (fun h107_4 => ?_)
              · exact absurd h107_4 (by decide)
              · refine lv_aload_n hx hb d_R_has_110 rfl (lv_at hl 1 rfl) ?_
                refine va_get (D := (dC, dI)) (ci := 5) (v := .ref (a 7)) (C := R_R) (T := T_R) (N := 18) hx hb htb in_R hown hK hP 0 rfl rfl 10 (by decide) (htb _ wd_459) (fun _ h9 => h9) rfl d_R_has_111 ?_
                refine lv_iload hx hb d_R_has_114 (lv_at hl 6 rfl) ?_
                refine ec_ialdN (f := w1) (i := t) hx hb hK hP 7 0 rfl rfl (by omega) (by decide) d_R_has_116 ?_
                refine lv_iload_n hx hb d_R_has_117 rfl (lv_at hl 4 rfl) ?_
                refine ec_icmp_ne (tgt := 147) hx hb d_R_has_118 rfl (by omega) (by omega) (fun h118_3 => ?_) (fun h118_3 => ?_)
                · refine lv_iconst (v := nI 0) hx hb d_R_has_147 (by decide) ?_
                  refine lv_istore hx hb d_R_has_148 hl (by decide) rfl (fun ls hl => ?_)
                  replace hl : lv_has ls 7 [(4, .int (nI 0)), (6, .int (nI 0)), (0, .ref (a 0)), (1, .int (nI i)), (2, .int (nI j)), (3, .int (nI k)), (5, .int (nI t))] := hl
                  refine ec_iinc (k := 6) hx hb d_R_has_150 hl rfl (by decide) rfl (fun ls hl => ?_)
                  replace hl : lv_has ls 7 [(5, .int (nI (t + 1))), (4, .int (nI 0)), (6, .int (nI 0)), (0, .ref (a 0)), (1, .int (nI i)), (2, .int (nI j)), (3, .int (nI k))] := hl
                  refine lv_goto (tgt := 6) hx hb d_R_has_153 rfl ?_
                  exact ih6 _ (by omega) (t := t + 1) (f := 0) (ls := ls) (hl := lv_sub hl [3, 4, 5, 6, 1, 0] rfl) (hle := (by omega)) (hf := (by omega)) (hI := ⟨fun _ q => by rcases ec_fnd_s.mp q with q | q; exact hI.1 h102_4 q; unfold ec_rot3 at q; omega, fun q => absurd rfl q⟩) (hk6 := rfl)
                · refine lv_aload_n hx hb d_R_has_121 rfl (lv_at hl 1 rfl) ?_
                  refine va_get (D := (dC, dI)) (ci := 5) (v := .ref (a 8)) (C := R_R) (T := T_R) (N := 18) hx hb htb in_R hown hK hP 0 rfl rfl 11 (by decide) (htb _ wd_460) (fun _ h9 => h9) rfl d_R_has_122 ?_
                  refine lv_iload hx hb d_R_has_125 (lv_at hl 6 rfl) ?_
                  refine ec_ialdN (f := w2) (i := t) hx hb hK hP 8 0 rfl rfl (by omega) (by decide) d_R_has_127 ?_
                  refine lv_iload_n hx hb d_R_has_128 rfl (lv_at hl 2 rfl) ?_
                  refine ec_icmp_ne (tgt := 147) hx hb d_R_has_129 rfl (by omega) (by omega) (fun h129_3 => ?_) (fun h129_3 => ?_)
                  · refine lv_iconst (v := nI 0) hx hb d_R_has_147 (by decide) ?_
                    refine lv_istore hx hb d_R_has_148 hl (by decide) rfl (fun ls hl => ?_)
                    replace hl : lv_has ls 7 [(4, .int (nI 0)), (6, .int (nI 0)), (0, .ref (a 0)), (1, .int (nI i)), (2, .int (nI j)), (3, .int (nI k)), (5, .int (nI t))] := hl
                    refine ec_iinc (k := 6) hx hb d_R_has_150 hl rfl (by decide) rfl (fun ls hl => ?_)
                    replace hl : lv_has ls 7 [(5, .int (nI (t + 1))), (4, .int (nI 0)), (6, .int (nI 0)), (0, .ref (a 0)), (1, .int (nI i)), (2, .int (nI j)), (3, .int (nI k))] := hl
                    refine lv_goto (tgt := 6) hx hb d_R_has_153 rfl ?_
                    exact ih6 _ (by omega) (t := t + 1) (f := 0) (ls := ls) (hl := lv_sub hl [3, 4, 5, 6, 1, 0] rfl) (hle := (by omega)) (hf := (by omega)) (hI := ⟨fun _ q => by rcases ec_fnd_s.mp q with q | q; exact hI.1 h102_4 q; unfold ec_rot3 at q; omega, fun q => absurd rfl q⟩) (hk6 := rfl)
                  · refine lv_aload_n hx hb d_R_has_132 rfl (lv_at hl 1 rfl) ?_
                    refine va_get (D := (dC, dI)) (ci := 5) (v := .ref (a 9)) (C := R_R) (T := T_R) (N := 18) hx hb htb in_R hown hK hP 0 rfl rfl 12 (by decide) (htb _ wd_461) (fun _ h9 => h9) rfl d_R_has_133 ?_
                    refine lv_iload hx hb d_R_has_136 (lv_at hl 6 rfl) ?_
                    refine ec_ialdN (f := w3) (i := t) hx hb hK hP 9 0 rfl rfl (by omega) (by decide) d_R_has_138 ?_
                    refine lv_iload_n hx hb d_R_has_139 rfl (lv_at hl 3 rfl) ?_
                    refine ec_icmp_ne (tgt := 147) hx hb d_R_has_140 rfl (by omega) (by omega) (fun h140_3 => ?_) (fun h140_3 => ?_)
                    · refine lv_iconst (v := nI 0) hx hb d_R_has_147 (by decide) ?_
                      refine lv_istore hx hb d_R_has_148 hl (by decide) rfl (fun ls hl => ?_)
                      replace hl : lv_has ls 7 [(4, .int (nI 0)), (6, .int (nI 0)), (0, .ref (a 0)), (1, .int (nI i)), (2, .int (nI j)), (3, .int (nI k)), (5, .int (nI t))] := hl
                      refine ec_iinc (k := 6) hx hb d_R_has_150 hl rfl (by decide) rfl (fun ls hl => ?_)
                      replace hl : lv_has ls 7 [(5, .int (nI (t + 1))), (4, .int (nI 0)), (6, .int (nI 0)), (0, .ref (a 0)), (1, .int (nI i)), (2, .int (nI j)), (3, .int (nI k))] := hl
                      refine lv_goto (tgt := 6) hx hb d_R_has_153 rfl ?_
                      exact ih6 _ (by omega) (t := t + 1) (f := 0) (ls := ls) (hl := lv_sub hl [3, 4, 5, 6, 1, 0] rfl) (hle := (by omega)) (hf := (by omega)) (hI := ⟨fun _ q => by rcases ec_fnd_s.mp q with q | q; exact hI.1 h102_4 q; unfold ec_rot3 at q; omega, fun q => absurd rfl q⟩) (hk6 := rfl)
                    · refine lv_iconst (v := nI 1) hx hb d_R_has_143 (by decide) ?_
                      refine lv_goto (tgt := 148) hx hb d_R_has_144 rfl ?_
                      refine lv_istore hx hb d_R_has_148 hl (by decide) rfl (fun ls hl => ?_)
                      replace hl : lv_has ls 7 [(4, .int (nI 1)), (6, .int (nI 0)), (0, .ref (a 0)), (1, .int (nI i)), (2, .int (nI j)), (3, .int (nI k)), (5, .int (nI t))] := hl
                      refine ec_iinc (k := 6) hx hb d_R_has_150 hl rfl (by decide) rfl (fun ls hl => ?_)
                      replace hl : lv_has ls 7 [(5, .int (nI (t + 1))), (4, .int (nI 1)), (6, .int (nI 0)), (0, .ref (a 0)), (1, .int (nI i)), (2, .int (nI j)), (3, .int (nI k))] := hl
                      refine lv_goto (tgt := 6) hx hb d_R_has_153 rfl ?_
                      exact ih6 _ (by omega) (t := t + 1) (f := 1) (ls := ls) (hl := lv_sub hl [3, 4, 5, 6, 1, 0] rfl) (hle := (by omega)) (hf := (by omega)) (hI := ⟨fun q => absurd q (by decide), fun _ => ec_fnd_s.mpr (Or.inr (by unfold ec_rot3; omega))⟩) (hk6 := rfl)
          · refine lv_aload_n hx hb d_R_has_71 rfl (lv_at hl 1 rfl) ?_
            refine va_get (D := (dC, dI)) (ci := 5) (v := .ref (a 8)) (C := R_R) (T := T_R) (N := 18) hx hb htb in_R hown hK hP 0 rfl rfl 11 (by decide) (htb _ wd_460) (fun _ h9 => h9) rfl d_R_has_72 ?_
            refine lv_iload hx hb d_R_has_75 (lv_at hl 6 rfl) ?_
            refine ec_ialdN (f := w2) (i := t) hx hb hK hP 8 0 rfl rfl (by omega) (by decide) d_R_has_77 ?_
            refine lv_iload_n hx hb d_R_has_78 rfl (lv_at hl 4 rfl) ?_
            refine ec_icmp_ne (tgt := 97) hx hb d_R_has_79 rfl (by omega) (by omega) (fun h79_1 => ?_) (fun h79_1 => ?_)
            · refine lv_iconst (v := nI 0) hx hb d_R_has_97 (by decide) ?_
              refine lv_istore hx hb d_R_has_98 hl (by decide) rfl (fun ls hl => ?_)
              replace hl : lv_has ls 7 [(6, .int (nI 0)), (0, .ref (a 0)), (1, .int (nI i)), (2, .int (nI j)), (3, .int (nI k)), (4, .int (nI f)), (5, .int (nI t))] := hl
              refine lv_iload hx hb d_R_has_100 (lv_at hl 5 rfl) ?_
              refine ec_if_ne (tgt := 143) hx hb d_R_has_102 rfl (by omega) (fun h102_5 => ?_) (fun h102_5 => ?_)
              · refine lv_iconst (v := nI 1) hx hb d_R_has_143 (by decide) ?_
                refine lv_goto (tgt := 148) hx hb d_R_has_144 rfl ?_
                refine lv_istore hx hb d_R_has_148 hl (by decide) rfl (fun ls hl => ?_)
                replace hl : lv_has ls 7 [(4, .int (nI 1)), (6, .int (nI 0)), (0, .ref (a 0)), (1, .int (nI i)), (2, .int (nI j)), (3, .int (nI k)), (5, .int (nI t))] := hl
                refine ec_iinc (k := 6) hx hb d_R_has_150 hl rfl (by decide) rfl (fun ls hl => ?_)
                replace hl : lv_has ls 7 [(5, .int (nI (t + 1))), (4, .int (nI 1)), (6, .int (nI 0)), (0, .ref (a 0)), (1, .int (nI i)), (2, .int (nI j)), (3, .int (nI k))] := hl
                refine lv_goto (tgt := 6) hx hb d_R_has_153 rfl ?_
                exact ih6 _ (by omega) (t := t + 1) (f := 1) (ls := ls) (hl := lv_sub hl [3, 4, 5, 6, 1, 0] rfl) (hle := (by omega)) (hf := (by omega)) (hI := ⟨fun q => absurd q (by decide), fun _ => ec_fnd_s.mpr (Or.inl (hI.2 h102_5))⟩) (hk6 := rfl)
              · refine lv_iload hx hb d_R_has_105 (lv_at hl 0 rfl) ?_
                refine ec_if_ne (tgt := 143) hx hb d_R_has_107 rfl (by omega) (fun h107_5 => ?_) (fun h107_5 => ?_)
                · exact absurd h107_5 (by decide)
                · refine lv_aload_n hx hb d_R_has_110 rfl (lv_at hl 1 rfl) ?_
                  refine va_get (D := (dC, dI)) (ci := 5) (v := .ref (a 7)) (C := R_R) (T := T_R) (N := 18) hx hb htb in_R hown hK hP 0 rfl rfl 10 (by decide) (htb _ wd_459) (fun _ h9 => h9) rfl d_R_has_111 ?_
                  refine lv_iload hx hb d_R_has_114 (lv_at hl 6 rfl) ?_
                  refine ec_ialdN (f := w1) (i := t) hx hb hK hP 7 0 rfl rfl (by omega) (by decide) d_R_has_116 ?_
                  refine lv_iload_n hx hb d_R_has_117 rfl (lv_at hl 4 rfl) ?_
                  refine ec_icmp_ne (tgt := 147) hx hb d_R_has_118 rfl (by omega) (by omega) (fun h118_4 => ?_) (fun h118_4 => ?_)
                  · refine lv_iconst (v := nI 0) hx hb d_R_has_147 (by decide) ?_
                    refine lv_istore hx hb d_R_has_148 hl (by decide) rfl (fun ls hl => ?_)
                    replace hl : lv_has ls 7 [(4, .int (nI 0)), (6, .int (nI 0)), (0, .ref (a 0)), (1, .int (nI i)), (2, .int (nI j)), (3, .int (nI k)), (5, .int (nI t))] := hl
                    refine ec_iinc (k := 6) hx hb d_R_has_150 hl rfl (by decide) rfl (fun ls hl => ?_)
                    replace hl : lv_has ls 7 [(5, .int (nI (t + 1))), (4, .int (nI 0)), (6, .int (nI 0)), (0, .ref (a 0)), (1, .int (nI i)), (2, .int (nI j)), (3, .int (nI k))] := hl
                    refine lv_goto (tgt := 6) hx hb d_R_has_153 rfl ?_
                    exact ih6 _ (by omega) (t := t + 1) (f := 0) (ls := ls) (hl := lv_sub hl [3, 4, 5, 6, 1, 0] rfl) (hle := (by omega)) (hf := (by omega)) (hI := ⟨fun _ q => by rcases ec_fnd_s.mp q with q | q; exact hI.1 h102_5 q; unfold ec_rot3 at q; omega, fun q => absurd rfl q⟩) (hk6 := rfl)
                  · refine lv_aload_n hx hb d_R_has_121 rfl (lv_at hl 1 rfl) ?_
                    refine va_get (D := (dC, dI)) (ci := 5) (v := .ref (a 8)) (C := R_R) (T := T_R) (N := 18) hx hb htb in_R hown hK hP 0 rfl rfl 11 (by decide) (htb _ wd_460) (fun _ h9 => h9) rfl d_R_has_122 ?_
                    refine lv_iload hx hb d_R_has_125 (lv_at hl 6 rfl) ?_
                    refine ec_ialdN (f := w2) (i := t) hx hb hK hP 8 0 rfl rfl (by omega) (by decide) d_R_has_127 ?_
                    refine lv_iload_n hx hb d_R_has_128 rfl (lv_at hl 2 rfl) ?_
                    refine ec_icmp_ne (tgt := 147) hx hb d_R_has_129 rfl (by omega) (by omega) (fun h129_4 => ?_) (fun h129_4 => ?_)
                    · refine lv_iconst (v := nI 0) hx hb d_R_has_147 (by decide) ?_
                      refine lv_istore hx hb d_R_has_148 hl (by decide) rfl (fun ls hl => ?_)
                      replace hl : lv_has ls 7 [(4, .int (nI 0)), (6, .int (nI 0)), (0, .ref (a 0)), (1, .int (nI i)), (2, .int (nI j)), (3, .int (nI k)), (5, .int (nI t))] := hl
                      refine ec_iinc (k := 6) hx hb d_R_has_150 hl rfl (by decide) rfl (fun ls hl => ?_)
                      replace hl : lv_has ls 7 [(5, .int (nI (t + 1))), (4, .int (nI 0)), (6, .int (nI 0)), (0, .ref (a 0)), (1, .int (nI i)), (2, .int (nI j)), (3, .int (nI k))] := hl
                      refine lv_goto (tgt := 6) hx hb d_R_has_153 rfl ?_
                      exact ih6 _ (by omega) (t := t + 1) (f := 0) (ls := ls) (hl := lv_sub hl [3, 4, 5, 6, 1, 0] rfl) (hle := (by omega)) (hf := (by omega)) (hI := ⟨fun _ q => by rcases ec_fnd_s.mp q with q | q; exact hI.1 h102_5 q; unfold ec_rot3 at q; omega, fun q => absurd rfl q⟩) (hk6 := rfl)
                    · refine lv_aload_n hx hb d_R_has_132 rfl (lv_at hl 1 rfl) ?_
                      refine va_get (D := (dC, dI)) (ci := 5) (v := .ref (a 9)) (C := R_R) (T := T_R) (N := 18) hx hb htb in_R hown hK hP 0 rfl rfl 12 (by decide) (htb _ wd_461) (fun _ h9 => h9) rfl d_R_has_133 ?_
                      refine lv_iload hx hb d_R_has_136 (lv_at hl 6 rfl) ?_
                      refine ec_ialdN (f := w3) (i := t) hx hb hK hP 9 0 rfl rfl (by omega) (by decide) d_R_has_138 ?_
                      refine lv_iload_n hx hb d_R_has_139 rfl (lv_at hl 3 rfl) ?_
                      refine ec_icmp_ne (tgt := 147) hx hb d_R_has_140 rfl (by omega) (by omega) (fun h140_4 => ?_) (fun h140_4 => ?_)
                      · refine lv_iconst (v := nI 0) hx hb d_R_has_147 (by decide) ?_
                        refine lv_istore hx hb d_R_has_148 hl (by decide) rfl (fun ls hl => ?_)
                        replace hl : lv_has ls 7 [(4, .int (nI 0)), (6, .int (nI 0)), (0, .ref (a 0)), (1, .int (nI i)), (2, .int (nI j)), (3, .int (nI k)), (5, .int (nI t))] := hl
                        refine ec_iinc (k := 6) hx hb d_R_has_150 hl rfl (by decide) rfl (fun ls hl => ?_)
                        replace hl : lv_has ls 7 [(5, .int (nI (t + 1))), (4, .int (nI 0)), (6, .int (nI 0)), (0, .ref (a 0)), (1, .int (nI i)), (2, .int (nI j)), (3, .int (nI k))] := hl
                        refine lv_goto (tgt := 6) hx hb d_R_has_153 rfl ?_
                        exact ih6 _ (by omega) (t := t + 1) (f := 0) (ls := ls) (hl := lv_sub hl [3, 4, 5, 6, 1, 0] rfl) (hle := (by omega)) (hf := (by omega)) (hI := ⟨fun _ q => by rcases ec_fnd_s.mp q with q | q; exact hI.1 h102_5 q; unfold ec_rot3 at q; omega, fun q => absurd rfl q⟩) (hk6 := rfl)
                      · refine lv_iconst (v := nI 1) hx hb d_R_has_143 (by decide) ?_
                        refine lv_goto (tgt := 148) hx hb d_R_has_144 rfl ?_
                        refine lv_istore hx hb d_R_has_148 hl (by decide) rfl (fun ls hl => ?_)
                        replace hl : lv_has ls 7 [(4, .int (nI 1)), (6, .int (nI 0)), (0, .ref (a 0)), (1, .int (nI i)), (2, .int (nI j)), (3, .int (nI k)), (5, .int (nI t))] := hl
                        refine ec_iinc (k := 6) hx hb d_R_has_150 hl rfl (by decide) rfl (fun ls hl => ?_)
                        replace hl : lv_has ls 7 [(5, .int (nI (t + 1))), (4, .int (nI 1)), (6, .int (nI 0)), (0, .ref (a 0)), (1, .int (nI i)), (2, .int (nI j)), (3, .int (nI k))] := hl
                        refine lv_goto (tgt := 6) hx hb d_R_has_153 rfl ?_
                        exact ih6 _ (by omega) (t := t + 1) (f := 1) (ls := ls) (hl := lv_sub hl [3, 4, 5, 6, 1, 0] rfl) (hle := (by omega)) (hf := (by omega)) (hI := ⟨fun q => absurd q (by decide), fun _ => ec_fnd_s.mpr (Or.inr (by unfold ec_rot3; omega))⟩) (hk6 := rfl)
            · refine lv_aload_n hx hb d_R_has_82 rfl (lv_at hl 1 rfl) ?_
              refine va_get (D := (dC, dI)) (ci := 5) (v := .ref (a 9)) (C := R_R) (T := T_R) (N := 18) hx hb htb in_R hown hK hP 0 rfl rfl 12 (by decide) (htb _ wd_461) (fun _ h9 => h9) rfl d_R_has_83 ?_
              refine lv_iload hx hb d_R_has_86 (lv_at hl 6 rfl) ?_
              refine ec_ialdN (f := w3) (i := t) hx hb hK hP 9 0 rfl rfl (by omega) (by decide) d_R_has_88 ?_
              refine lv_iload_n hx hb d_R_has_89 rfl (lv_at hl 2 rfl) ?_
              refine ec_icmp_ne (tgt := 97) hx hb d_R_has_90 rfl (by omega) (by omega) (fun h90_1 => ?_) (fun h90_1 => ?_)
              · refine lv_iconst (v := nI 0) hx hb d_R_has_97 (by decide) ?_
                refine lv_istore hx hb d_R_has_98 hl (by decide) rfl (fun ls hl => ?_)
                replace hl : lv_has ls 7 [(6, .int (nI 0)), (0, .ref (a 0)), (1, .int (nI i)), (2, .int (nI j)), (3, .int (nI k)), (4, .int (nI f)), (5, .int (nI t))] := hl
                refine lv_iload hx hb d_R_has_100 (lv_at hl 5 rfl) ?_
                refine ec_if_ne (tgt := 143) hx hb d_R_has_102 rfl (by omega) (fun h102_6 => ?_) (fun h102_6 => ?_)
                · refine lv_iconst (v := nI 1) hx hb d_R_has_143 (by decide) ?_
                  refine lv_goto (tgt := 148) hx hb d_R_has_144 rfl ?_
                  refine lv_istore hx hb d_R_has_148 hl (by decide) rfl (fun ls hl => ?_)
                  replace hl : lv_has ls 7 [(4, .int (nI 1)), (6, .int (nI 0)), (0, .ref (a 0)), (1, .int (nI i)), (2, .int (nI j)), (3, .int (nI k)), (5, .int (nI t))] := hl
                  refine ec_iinc (k := 6) hx hb d_R_has_150 hl rfl (by decide) rfl (fun ls hl => ?_)
                  replace hl : lv_has ls 7 [(5, .int (nI (t + 1))), (4, .int (nI 1)), (6, .int (nI 0)), (0, .ref (a 0)), (1, .int (nI i)), (2, .int (nI j)), (3, .int (nI k))] := hl
                  refine lv_goto (tgt := 6) hx hb d_R_has_153 rfl ?_
                  exact ih6 _ (by omega) (t := t + 1) (f := 1) (ls := ls) (hl := lv_sub hl [3, 4, 5, 6, 1, 0] rfl) (hle := (by omega)) (hf := (by omega)) (hI := ⟨fun q => absurd q (by decide), fun _ => ec_fnd_s.mpr (Or.inl (hI.2 h102_6))⟩) (hk6 := rfl)
                · refine lv_iload hx hb d_R_has_105 (lv_at hl 0 rfl) ?_
                  refine ec_if_ne (tgt := 143) hx hb d_R_has_107 rfl (by omega) (fun h107_6 => ?_) (fun h107_6 => ?_)
                  · exact absurd h107_6 (by decide)
                  · refine lv_aload_n hx hb d_R_has_110 rfl (lv_at hl 1 rfl) ?_
                    refine va_get (D := (dC, dI)) (ci := 5) (v := .ref (a 7)) (C := R_R) (T := T_R) (N := 18) hx hb htb in_R hown hK hP 0 rfl rfl 10 (by decide) (htb _ wd_459) (fun _ h9 => h9) rfl d_R_has_111 ?_
                    refine lv_iload hx hb d_R_has_114 (lv_at hl 6 rfl) ?_
                    refine ec_ialdN (f := w1) (i := t) hx hb hK hP 7 0 rfl rfl (by omega) (by decide) d_R_has_116 ?_
                    refine lv_iload_n hx hb d_R_has_117 rfl (lv_at hl 4 rfl) ?_
                    refine ec_icmp_ne (tgt := 147) hx hb d_R_has_118 rfl (by omega) (by omega) (fun h118_5 => ?_) (fun h118_5 => ?_)
                    · refine lv_iconst (v := nI 0) hx hb d_R_has_147 (by decide) ?_
                      refine lv_istore hx hb d_R_has_148 hl (by decide) rfl (fun ls hl => ?_)
                      replace hl : lv_has ls 7 [(4, .int (nI 0)), (6, .int (nI 0)), (0, .ref (a 0)), (1, .int (nI i)), (2, .int (nI j)), (3, .int (nI k)), (5, .int (nI t))] := hl
                      refine ec_iinc (k := 6) hx hb d_R_has_150 hl rfl (by decide) rfl (fun ls hl => ?_)
                      replace hl : lv_has ls 7 [(5, .int (nI (t + 1))), (4, .int (nI 0)), (6, .int (nI 0)), (0, .ref (a 0)), (1, .int (nI i)), (2, .int (nI j)), (3, .int (nI k))] := hl
                      refine lv_goto (tgt := 6) hx hb d_R_has_153 rfl ?_
                      exact ih6 _ (by omega) (t := t + 1) (f := 0) (ls := ls) (hl := lv_sub hl [3, 4, 5, 6, 1, 0] rfl) (hle := (by omega)) (hf := (by omega)) (hI := ⟨fun _ q => by rcases ec_fnd_s.mp q with q | q; exact hI.1 h102_6 q; unfold ec_rot3 at q; omega, fun q => absurd rfl q⟩) (hk6 := rfl)
                    · refine lv_aload_n hx hb d_R_has_121 rfl (lv_at hl 1 rfl) ?_
                      refine va_get (D := (dC, dI)) (ci := 5) (v := .ref (a 8)) (C := R_R) (T := T_R) (N := 18) hx hb htb in_R hown hK hP 0 rfl rfl 11 (by decide) (htb _ wd_460) (fun _ h9 => h9) rfl d_R_has_122 ?_
                      refine lv_iload hx hb d_R_has_125 (lv_at hl 6 rfl) ?_
                      refine ec_ialdN (f := w2) (i := t) hx hb hK hP 8 0 rfl rfl (by omega) (by decide) d_R_has_127 ?_
                      refine lv_iload_n hx hb d_R_has_128 rfl (lv_at hl 2 rfl) ?_
                      refine ec_icmp_ne (tgt := 147) hx hb d_R_has_129 rfl (by omega) (by omega) (fun h129_5 => ?_) (fun h129_5 => ?_)
                      · refine lv_iconst (v := nI 0) hx hb d_R_has_147 (by decide) ?_
                        refine lv_istore hx hb d_R_has_148 hl (by decide) rfl (fun ls hl => ?_)
                        replace hl : lv_has ls 7 [(4, .int (nI 0)), (6, .int (nI 0)), (0, .ref (a 0)), (1, .int (nI i)), (2, .int (nI j)), (3, .int (nI k)), (5, .int (nI t))] := hl
                        refine ec_iinc (k := 6) hx hb d_R_has_150 hl rfl (by decide) rfl (fun ls hl => ?_)
                        replace hl : lv_has ls 7 [(5, .int (nI (t + 1))), (4, .int (nI 0)), (6, .int (nI 0)), (0, .ref (a 0)), (1, .int (nI i)), (2, .int (nI j)), (3, .int (nI k))] := hl
                        refine lv_goto (tgt := 6) hx hb d_R_has_153 rfl ?_
                        exact ih6 _ (by omega) (t := t + 1) (f := 0) (ls := ls) (hl := lv_sub hl [3, 4, 5, 6, 1, 0] rfl) (hle := (by omega)) (hf := (by omega)) (hI := ⟨fun _ q => by rcases ec_fnd_s.mp q with q | q; exact hI.1 h102_6 q; unfold ec_rot3 at q; omega, fun q => absurd rfl q⟩) (hk6 := rfl)
                      · refine lv_aload_n hx hb d_R_has_132 rfl (lv_at hl 1 rfl) ?_
                        refine va_get (D := (dC, dI)) (ci := 5) (v := .ref (a 9)) (C := R_R) (T := T_R) (N := 18) hx hb htb in_R hown hK hP 0 rfl rfl 12 (by decide) (htb _ wd_461) (fun _ h9 => h9) rfl d_R_has_133 ?_
                        refine lv_iload hx hb d_R_has_136 (lv_at hl 6 rfl) ?_
                        refine ec_ialdN (f := w3) (i := t) hx hb hK hP 9 0 rfl rfl (by omega) (by decide) d_R_has_138 ?_
                        refine lv_iload_n hx hb d_R_has_139 rfl (lv_at hl 3 rfl) ?_
                        refine ec_icmp_ne (tgt := 147) hx hb d_R_has_140 rfl (by omega) (by omega) (fun h140_5 => ?_) (fun h140_5 => ?_)
                        · refine lv_iconst (v := nI 0) hx hb d_R_has_147 (by decide) ?_
                          refine lv_istore hx hb d_R_has_148 hl (by decide) rfl (fun ls hl => ?_)
                          replace hl : lv_has ls 7 [(4, .int (nI 0)), (6, .int (nI 0)), (0, .ref (a 0)), (1, .int (nI i)), (2, .int (nI j)), (3, .int (nI k)), (5, .int (nI t))] := hl
                          refine ec_iinc (k := 6) hx hb d_R_has_150 hl rfl (by decide) rfl (fun ls hl => ?_)
                          replace hl : lv_has ls 7 [(5, .int (nI (t + 1))), (4, .int (nI 0)), (6, .int (nI 0)), (0, .ref (a 0)), (1, .int (nI i)), (2, .int (nI j)), (3, .int (nI k))] := hl
                          refine lv_goto (tgt := 6) hx hb d_R_has_153 rfl ?_
                          exact ih6 _ (by omega) (t := t + 1) (f := 0) (ls := ls) (hl := lv_sub hl [3, 4, 5, 6, 1, 0] rfl) (hle := (by omega)) (hf := (by omega)) (hI := ⟨fun _ q => by rcases ec_fnd_s.mp q with q | q; exact hI.1 h102_6 q; unfold ec_rot3 at q; omega, fun q => absurd rfl q⟩) (hk6 := rfl)
                        · refine lv_iconst (v := nI 1) hx hb d_R_has_143 (by decide) ?_
                          refine lv_goto (tgt := 148) hx hb d_R_has_144 rfl ?_
                          refine lv_istore hx hb d_R_has_148 hl (by decide) rfl (fun ls hl => ?_)
                          replace hl : lv_has ls 7 [(4, .int (nI 1)), (6, .int (nI 0)), (0, .ref (a 0)), (1, .int (nI i)), (2, .int (nI j)), (3, .int (nI k)), (5, .int (nI t))] := hl
                          refine ec_iinc (k := 6) hx hb d_R_has_150 hl rfl (by decide) rfl (fun ls hl => ?_)
                          replace hl : lv_has ls 7 [(5, .int (nI (t + 1))), (4, .int (nI 1)), (6, .int (nI 0)), (0, .ref (a 0)), (1, .int (nI i)), (2, .int (nI j)), (3, .int (nI k))] := hl
                          refine lv_goto (tgt := 6) hx hb d_R_has_153 rfl ?_
                          exact ih6 _ (by omega) (t := t + 1) (f := 1) (ls := ls) (hl := lv_sub hl [3, 4, 5, 6, 1, 0] rfl) (hle := (by omega)) (hf := (by omega)) (hI := ⟨fun q => absurd q (by decide), fun _ => ec_fnd_s.mpr (Or.inr (by unfold ec_rot3; omega))⟩) (hk6 := rfl)
              · refine lv_iconst (v := nI 1) hx hb d_R_has_93 (by decide) ?_
                refine lv_goto (tgt := 98) hx hb d_R_has_94 rfl ?_
                refine lv_istore hx hb d_R_has_98 hl (by decide) rfl (fun ls hl => ?_)
                replace hl : lv_has ls 7 [(6, .int (nI 1)), (0, .ref (a 0)), (1, .int (nI i)), (2, .int (nI j)), (3, .int (nI k)), (4, .int (nI f)), (5, .int (nI t))] := hl
                refine lv_iload hx hb d_R_has_100 (lv_at hl 5 rfl) ?_
                refine ec_if_ne (tgt := 143) hx hb d_R_has_102 rfl (by omega) (fun h102_7 => ?_) (fun h102_7 => ?_)
                · refine lv_iconst (v := nI 1) hx hb d_R_has_143 (by decide) ?_
                  refine lv_goto (tgt := 148) hx hb d_R_has_144 rfl ?_
                  refine lv_istore hx hb d_R_has_148 hl (by decide) rfl (fun ls hl => ?_)
                  replace hl : lv_has ls 7 [(4, .int (nI 1)), (6, .int (nI 1)), (0, .ref (a 0)), (1, .int (nI i)), (2, .int (nI j)), (3, .int (nI k)), (5, .int (nI t))] := hl
                  refine ec_iinc (k := 6) hx hb d_R_has_150 hl rfl (by decide) rfl (fun ls hl => ?_)
                  replace hl : lv_has ls 7 [(5, .int (nI (t + 1))), (4, .int (nI 1)), (6, .int (nI 1)), (0, .ref (a 0)), (1, .int (nI i)), (2, .int (nI j)), (3, .int (nI k))] := hl
                  refine lv_goto (tgt := 6) hx hb d_R_has_153 rfl ?_
                  exact ih6 _ (by omega) (t := t + 1) (f := 1) (ls := ls) (hl := lv_sub hl [3, 4, 5, 6, 1, 0] rfl) (hle := (by omega)) (hf := (by omega)) (hI := ⟨fun q => absurd q (by decide), fun _ => ec_fnd_s.mpr (Or.inl (hI.2 h102_7))⟩) (hk6 := rfl)
                · refine lv_iload hx hb d_R_has_105 (lv_at hl 0 rfl) ?_
                  refine ec_if_ne (tgt := 143) hx hb d_R_has_107 rfl (by omega) (fun h107_7 => ?_) (fun h107_7 => ?_)
                  · refine lv_iconst (v := nI 1) hx hb d_R_has_143 (by decide) ?_
                    refine lv_goto (tgt := 148) hx hb d_R_has_144 rfl ?_
                    refine lv_istore hx hb d_R_has_148 hl (by decide) rfl (fun ls hl => ?_)
                    replace hl : lv_has ls 7 [(4, .int (nI 1)), (6, .int (nI 1)), (0, .ref (a 0)), (1, .int (nI i)), (2, .int (nI j)), (3, .int (nI k)), (5, .int (nI t))] := hl
                    refine ec_iinc (k := 6) hx hb d_R_has_150 hl rfl (by decide) rfl (fun ls hl => ?_)
                    replace hl : lv_has ls 7 [(5, .int (nI (t + 1))), (4, .int (nI 1)), (6, .int (nI 1)), (0, .ref (a 0)), (1, .int (nI i)), (2, .int (nI j)), (3, .int (nI k))] := hl
                    refine lv_goto (tgt := 6) hx hb d_R_has_153 rfl ?_
                    exact ih6 _ (by omega) (t := t + 1) (f := 1) (ls := ls) (hl := lv_sub hl [3, 4, 5, 6, 1, 0] rfl) (hle := (by omega)) (hf := (by omega)) (hI := ⟨fun q => absurd q (by decide), fun _ => ec_fnd_s.mpr (Or.inr (by unfold ec_rot3; omega))⟩) (hk6 := rfl)
                  · exact absurd h107_7 (by decide)
      · refine lv_aload_n hx hb d_R_has_37 rfl (lv_at hl 0 rfl) ?_
        refine va_get (D := (dC, dI)) (ci := 5) (v := .ref (a 9)) (C := R_R) (T := T_R) (N := 18) hx hb htb in_R hown hK hP 0 rfl rfl 12 (by decide) (htb _ wd_461) (fun _ h9 => h9) rfl d_R_has_38 ?_
        refine lv_iload hx hb d_R_has_41 (lv_at hl 5 rfl) ?_
        refine ec_ialdN (f := w3) (i := t) hx hb hK hP 9 0 rfl rfl (by omega) (by decide) d_R_has_43 ?_
        refine lv_iload_n hx hb d_R_has_44 rfl (lv_at hl 3 rfl) ?_
        refine ec_icmp_ne (tgt := 52) hx hb d_R_has_45 rfl (by omega) (by omega) (fun h45 => ?_) (fun h45 => ?_)
        · refine lv_iconst (v := nI 0) hx hb d_R_has_52 (by decide) ?_
          refine lv_istore hx hb d_R_has_53 hl (by decide) rfl (fun ls hl => ?_)
          replace hl : lv_has ls 7 [(6, .int (nI 0)), (0, .ref (a 0)), (1, .int (nI i)), (2, .int (nI j)), (3, .int (nI k)), (4, .int (nI f)), (5, .int (nI t))] := hl
          refine lv_iload hx hb d_R_has_55 (lv_at hl 0 rfl) ?_
          refine ec_if_ne (tgt := 93) hx hb d_R_has_57 rfl (by omega) (fun h57_2 => ?_) (fun h57_2 => ?_)
          · exact absurd h57_2 (by decide)
          · refine lv_aload_n hx hb d_R_has_60 rfl (lv_at hl 1 rfl) ?_
            refine va_get (D := (dC, dI)) (ci := 5) (v := .ref (a 7)) (C := R_R) (T := T_R) (N := 18) hx hb htb in_R hown hK hP 0 rfl rfl 10 (by decide) (htb _ wd_459) (fun _ h9 => h9) rfl d_R_has_61 ?_
            refine lv_iload hx hb d_R_has_64 (lv_at hl 6 rfl) ?_
            refine ec_ialdN (f := w1) (i := t) hx hb hK hP 7 0 rfl rfl (by omega) (by decide) d_R_has_66 ?_
            refine lv_iload_n hx hb d_R_has_67 rfl (lv_at hl 3 rfl) ?_
            refine ec_icmp_ne (tgt := 97) hx hb d_R_has_68 rfl (by omega) (by omega) (fun h68_2 => ?_) (fun h68_2 => ?_)
            · refine lv_iconst (v := nI 0) hx hb d_R_has_97 (by decide) ?_
              refine lv_istore hx hb d_R_has_98 hl (by decide) rfl (fun ls hl => ?_)
              replace hl : lv_has ls 7 [(6, .int (nI 0)), (0, .ref (a 0)), (1, .int (nI i)), (2, .int (nI j)), (3, .int (nI k)), (4, .int (nI f)), (5, .int (nI t))] := hl
              refine lv_iload hx hb d_R_has_100 (lv_at hl 5 rfl) ?_
              refine ec_if_ne (tgt := 143) hx hb d_R_has_102 rfl (by omega) (fun h102_8 => ?_) (fun h102_8 => ?_)
              · refine lv_iconst (v := nI 1) hx hb d_R_has_143 (by decide) ?_
                refine lv_goto (tgt := 148) hx hb d_R_has_144 rfl ?_
                refine lv_istore hx hb d_R_has_148 hl (by decide) rfl (fun ls hl => ?_)
                replace hl : lv_has ls 7 [(4, .int (nI 1)), (6, .int (nI 0)), (0, .ref (a 0)), (1, .int (nI i)), (2, .int (nI j)), (3, .int (nI k)), (5, .int (nI t))] := hl
                refine ec_iinc (k := 6) hx hb d_R_has_150 hl rfl (by decide) rfl (fun ls hl => ?_)
                replace hl : lv_has ls 7 [(5, .int (nI (t + 1))), (4, .int (nI 1)), (6, .int (nI 0)), (0, .ref (a 0)), (1, .int (nI i)), (2, .int (nI j)), (3, .int (nI k))] := hl
                refine lv_goto (tgt := 6) hx hb d_R_has_153 rfl ?_
                exact ih6 _ (by omega) (t := t + 1) (f := 1) (ls := ls) (hl := lv_sub hl [3, 4, 5, 6, 1, 0] rfl) (hle := (by omega)) (hf := (by omega)) (hI := ⟨fun q => absurd q (by decide), fun _ => ec_fnd_s.mpr (Or.inl (hI.2 h102_8))⟩) (hk6 := rfl)
              · refine lv_iload hx hb d_R_has_105 (lv_at hl 0 rfl) ?_
                refine ec_if_ne (tgt := 143) hx hb d_R_has_107 rfl (by omega) (fun h107_8 => ?_) (fun h107_8 => ?_)
                · exact absurd h107_8 (by decide)
                · refine lv_aload_n hx hb d_R_has_110 rfl (lv_at hl 1 rfl) ?_
                  refine va_get (D := (dC, dI)) (ci := 5) (v := .ref (a 7)) (C := R_R) (T := T_R) (N := 18) hx hb htb in_R hown hK hP 0 rfl rfl 10 (by decide) (htb _ wd_459) (fun _ h9 => h9) rfl d_R_has_111 ?_
                  refine lv_iload hx hb d_R_has_114 (lv_at hl 6 rfl) ?_
                  refine ec_ialdN (f := w1) (i := t) hx hb hK hP 7 0 rfl rfl (by omega) (by decide) d_R_has_116 ?_
                  refine lv_iload_n hx hb d_R_has_117 rfl (lv_at hl 4 rfl) ?_
                  refine ec_icmp_ne (tgt := 147) hx hb d_R_has_118 rfl (by omega) (by omega) (fun h118_6 => ?_) (fun h118_6 => ?_)
                  · refine lv_iconst (v := nI 0) hx hb d_R_has_147 (by decide) ?_
                    refine lv_istore hx hb d_R_has_148 hl (by decide) rfl (fun ls hl => ?_)
                    replace hl : lv_has ls 7 [(4, .int (nI 0)), (6, .int (nI 0)), (0, .ref (a 0)), (1, .int (nI i)), (2, .int (nI j)), (3, .int (nI k)), (5, .int (nI t))] := hl
                    refine ec_iinc (k := 6) hx hb d_R_has_150 hl rfl (by decide) rfl (fun ls hl => ?_)
                    replace hl : lv_has ls 7 [(5, .int (nI (t + 1))), (4, .int (nI 0)), (6, .int (nI 0)), (0, .ref (a 0)), (1, .int (nI i)), (2, .int (nI j)), (3, .int (nI k))] := hl
                    refine lv_goto (tgt := 6) hx hb d_R_has_153 rfl ?_
                    exact ih6 _ (by omega) (t := t + 1) (f := 0) (ls := ls) (hl := lv_sub hl [3, 4, 5, 6, 1, 0] rfl) (hle := (by omega)) (hf := (by omega)) (hI := ⟨fun _ q => by rcases ec_fnd_s.mp q with q | q; exact hI.1 h102_8 q; unfold ec_rot3 at q; omega, fun q => absurd rfl q⟩) (hk6 := rfl)
                  · refine lv_aload_n hx hb d_R_has_121 rfl (lv_at hl 1 rfl) ?_
                    refine va_get (D := (dC, dI)) (ci := 5) (v := .ref (a 8)) (C := R_R) (T := T_R) (N := 18) hx hb htb in_R hown hK hP 0 rfl rfl 11 (by decide) (htb _ wd_460) (fun _ h9 => h9) rfl d_R_has_122 ?_
                    refine lv_iload hx hb d_R_has_125 (lv_at hl 6 rfl) ?_
                    refine ec_ialdN (f := w2) (i := t) hx hb hK hP 8 0 rfl rfl (by omega) (by decide) d_R_has_127 ?_
                    refine lv_iload_n hx hb d_R_has_128 rfl (lv_at hl 2 rfl) ?_
                    refine ec_icmp_ne (tgt := 147) hx hb d_R_has_129 rfl (by omega) (by omega) (fun h129_6 => ?_) (fun h129_6 => ?_)
                    · refine lv_iconst (v := nI 0) hx hb d_R_has_147 (by decide) ?_
                      refine lv_istore hx hb d_R_has_148 hl (by decide) rfl (fun ls hl => ?_)
                      replace hl : lv_has ls 7 [(4, .int (nI 0)), (6, .int (nI 0)), (0, .ref (a 0)), (1, .int (nI i)), (2, .int (nI j)), (3, .int (nI k)), (5, .int (nI t))] := hl
                      refine ec_iinc (k := 6) hx hb d_R_has_150 hl rfl (by decide) rfl (fun ls hl => ?_)
                      replace hl : lv_has ls 7 [(5, .int (nI (t + 1))), (4, .int (nI 0)), (6, .int (nI 0)), (0, .ref (a 0)), (1, .int (nI i)), (2, .int (nI j)), (3, .int (nI k))] := hl
                      refine lv_goto (tgt := 6) hx hb d_R_has_153 rfl ?_
                      exact ih6 _ (by omega) (t := t + 1) (f := 0) (ls := ls) (hl := lv_sub hl [3, 4, 5, 6, 1, 0] rfl) (hle := (by omega)) (hf := (by omega)) (hI := ⟨fun _ q => by rcases ec_fnd_s.mp q with q | q; exact hI.1 h102_8 q; unfold ec_rot3 at q; omega, fun q => absurd rfl q⟩) (hk6 := rfl)
                    · refine lv_aload_n hx hb d_R_has_132 rfl (lv_at hl 1 rfl) ?_
                      refine va_get (D := (dC, dI)) (ci := 5) (v := .ref (a 9)) (C := R_R) (T := T_R) (N := 18) hx hb htb in_R hown hK hP 0 rfl rfl 12 (by decide) (htb _ wd_461) (fun _ h9 => h9) rfl d_R_has_133 ?_
                      refine lv_iload hx hb d_R_has_136 (lv_at hl 6 rfl) ?_
                      refine ec_ialdN (f := w3) (i := t) hx hb hK hP 9 0 rfl rfl (by omega) (by decide) d_R_has_138 ?_
                      refine lv_iload_n hx hb d_R_has_139 rfl (lv_at hl 3 rfl) ?_
                      refine ec_icmp_ne (tgt := 147) hx hb d_R_has_140 rfl (by omega) (by omega) (fun h140_6 => ?_) (fun h140_6 => ?_)
                      · refine lv_iconst (v := nI 0) hx hb d_R_has_147 (by decide) ?_
                        refine lv_istore hx hb d_R_has_148 hl (by decide) rfl (fun ls hl => ?_)
                        replace hl : lv_has ls 7 [(4, .int (nI 0)), (6, .int (nI 0)), (0, .ref (a 0)), (1, .int (nI i)), (2, .int (nI j)), (3, .int (nI k)), (5, .int (nI t))] := hl
                        refine ec_iinc (k := 6) hx hb d_R_has_150 hl rfl (by decide) rfl (fun ls hl => ?_)
                        replace hl : lv_has ls 7 [(5, .int (nI (t + 1))), (4, .int (nI 0)), (6, .int (nI 0)), (0, .ref (a 0)), (1, .int (nI i)), (2, .int (nI j)), (3, .int (nI k))] := hl
                        refine lv_goto (tgt := 6) hx hb d_R_has_153 rfl ?_
                        exact ih6 _ (by omega) (t := t + 1) (f := 0) (ls := ls) (hl := lv_sub hl [3, 4, 5, 6, 1, 0] rfl) (hle := (by omega)) (hf := (by omega)) (hI := ⟨fun _ q => by rcases ec_fnd_s.mp q with q | q; exact hI.1 h102_8 q; unfold ec_rot3 at q; omega, fun q => absurd rfl q⟩) (hk6 := rfl)
                      · refine lv_iconst (v := nI 1) hx hb d_R_has_143 (by decide) ?_
                        refine lv_goto (tgt := 148) hx hb d_R_has_144 rfl ?_
                        refine lv_istore hx hb d_R_has_148 hl (by decide) rfl (fun ls hl => ?_)
                        replace hl : lv_has ls 7 [(4, .int (nI 1)), (6, .int (nI 0)), (0, .ref (a 0)), (1, .int (nI i)), (2, .int (nI j)), (3, .int (nI k)), (5, .int (nI t))] := hl
                        refine ec_iinc (k := 6) hx hb d_R_has_150 hl rfl (by decide) rfl (fun ls hl => ?_)
                        replace hl : lv_has ls 7 [(5, .int (nI (t + 1))), (4, .int (nI 1)), (6, .int (nI 0)), (0, .ref (a 0)), (1, .int (nI i)), (2, .int (nI j)), (3, .int (nI k))] := hl
                        refine lv_goto (tgt := 6) hx hb d_R_has_153 rfl ?_
                        exact ih6 _ (by omega) (t := t + 1) (f := 1) (ls := ls) (hl := lv_sub hl [3, 4, 5, 6, 1, 0] rfl) (hle := (by omega)) (hf := (by omega)) (hI := ⟨fun q => absurd q (by decide), fun _ => ec_fnd_s.mpr (Or.inr (by unfold ec_rot3; omega))⟩) (hk6 := rfl)
            · refine lv_aload_n hx hb d_R_has_71 rfl (lv_at hl 1 rfl) ?_
              refine va_get (D := (dC, dI)) (ci := 5) (v := .ref (a 8)) (C := R_R) (T := T_R) (N := 18) hx hb htb in_R hown hK hP 0 rfl rfl 11 (by decide) (htb _ wd_460) (fun _ h9 => h9) rfl d_R_has_72 ?_
              refine lv_iload hx hb d_R_has_75 (lv_at hl 6 rfl) ?_
              refine ec_ialdN (f := w2) (i := t) hx hb hK hP 8 0 rfl rfl (by omega) (by decide) d_R_has_77 ?_
              refine lv_iload_n hx hb d_R_has_78 rfl (lv_at hl 4 rfl) ?_
              refine ec_icmp_ne (tgt := 97) hx hb d_R_has_79 rfl (by omega) (by omega) (fun h79_2 => ?_) (fun h79_2 => ?_)
              · refine lv_iconst (v := nI 0) hx hb d_R_has_97 (by decide) ?_
                refine lv_istore hx hb d_R_has_98 hl (by decide) rfl (fun ls hl => ?_)
                replace hl : lv_has ls 7 [(6, .int (nI 0)), (0, .ref (a 0)), (1, .int (nI i)), (2, .int (nI j)), (3, .int (nI k)), (4, .int (nI f)), (5, .int (nI t))] := hl
                refine lv_iload hx hb d_R_has_100 (lv_at hl 5 rfl) ?_
                refine ec_if_ne (tgt := 143) hx hb d_R_has_102 rfl (by omega) (fun h102_9 => ?_) (fun h102_9 => ?_)
                · refine lv_iconst (v := nI 1) hx hb d_R_has_143 (by decide) ?_
                  refine lv_goto (tgt := 148) hx hb d_R_has_144 rfl ?_
                  refine lv_istore hx hb d_R_has_148 hl (by decide) rfl (fun ls hl => ?_)
                  replace hl : lv_has ls 7 [(4, .int (nI 1)), (6, .int (nI 0)), (0, .ref (a 0)), (1, .int (nI i)), (2, .int (nI j)), (3, .int (nI k)), (5, .int (nI t))] := hl
                  refine ec_iinc (k := 6) hx hb d_R_has_150 hl rfl (by decide) rfl (fun ls hl => ?_)
                  replace hl : lv_has ls 7 [(5, .int (nI (t + 1))), (4, .int (nI 1)), (6, .int (nI 0)), (0, .ref (a 0)), (1, .int (nI i)), (2, .int (nI j)), (3, .int (nI k))] := hl
                  refine lv_goto (tgt := 6) hx hb d_R_has_153 rfl ?_
                  exact ih6 _ (by omega) (t := t + 1) (f := 1) (ls := ls) (hl := lv_sub hl [3, 4, 5, 6, 1, 0] rfl) (hle := (by omega)) (hf := (by omega)) (hI := ⟨fun q => absurd q (by decide), fun _ => ec_fnd_s.mpr (Or.inl (hI.2 h102_9))⟩) (hk6 := rfl)
                · refine lv_iload hx hb d_R_has_105 (lv_at hl 0 rfl) ?_
                  refine ec_if_ne (tgt := 143) hx hb d_R_has_107 rfl (by omega) (fun h107_9 => ?_) (fun h107_9 => ?_)
                  · exact absurd h107_9 (by decide)
                  · refine lv_aload_n hx hb d_R_has_110 rfl (lv_at hl 1 rfl) ?_
                    refine va_get (D := (dC, dI)) (ci := 5) (v := .ref (a 7)) (C := R_R) (T := T_R) (N := 18) hx hb htb in_R hown hK hP 0 rfl rfl 10 (by decide) (htb _ wd_459) (fun _ h9 => h9) rfl d_R_has_111 ?_
                    refine lv_iload hx hb d_R_has_114 (lv_at hl 6 rfl) ?_
                    refine ec_ialdN (f := w1) (i := t) hx hb hK hP 7 0 rfl rfl (by omega) (by decide) d_R_has_116 ?_
                    refine lv_iload_n hx hb d_R_has_117 rfl (lv_at hl 4 rfl) ?_
                    refine ec_icmp_ne (tgt := 147) hx hb d_R_has_118 rfl (by omega) (by omega) (fun h118_7 => ?_) (fun h118_7 => ?_)
                    · refine lv_iconst (v := nI 0) hx hb d_R_has_147 (by decide) ?_
                      refine lv_istore hx hb d_R_has_148 hl (by decide) rfl (fun ls hl => ?_)
                      replace hl : lv_has ls 7 [(4, .int (nI 0)), (6, .int (nI 0)), (0, .ref (a 0)), (1, .int (nI i)), (2, .int (nI j)), (3, .int (nI k)), (5, .int (nI t))] := hl
                      refine ec_iinc (k := 6) hx hb d_R_has_150 hl rfl (by decide) rfl (fun ls hl => ?_)
                      replace hl : lv_has ls 7 [(5, .int (nI (t + 1))), (4, .int (nI 0)), (6, .int (nI 0)), (0, .ref (a 0)), (1, .int (nI i)), (2, .int (nI j)), (3, .int (nI k))] := hl
                      refine lv_goto (tgt := 6) hx hb d_R_has_153 rfl ?_
                      exact ih6 _ (by omega) (t := t + 1) (f := 0) (ls := ls) (hl := lv_sub hl [3, 4, 5, 6, 1, 0] rfl) (hle := (by omega)) (hf := (by omega)) (hI := ⟨fun _ q => by rcases ec_fnd_s.mp q with q | q; exact hI.1 h102_9 q; unfold ec_rot3 at q; omega, fun q => absurd rfl q⟩) (hk6 := rfl)
                    · refine lv_aload_n hx hb d_R_has_121 rfl (lv_at hl 1 rfl) ?_
                      refine va_get (D := (dC, dI)) (ci := 5) (v := .ref (a 8)) (C := R_R) (T := T_R) (N := 18) hx hb htb in_R hown hK hP 0 rfl rfl 11 (by decide) (htb _ wd_460) (fun _ h9 => h9) rfl d_R_has_122 ?_
                      refine lv_iload hx hb d_R_has_125 (lv_at hl 6 rfl) ?_
                      refine ec_ialdN (f := w2) (i := t) hx hb hK hP 8 0 rfl rfl (by omega) (by decide) d_R_has_127 ?_
                      refine lv_iload_n hx hb d_R_has_128 rfl (lv_at hl 2 rfl) ?_
                      refine ec_icmp_ne (tgt := 147) hx hb d_R_has_129 rfl (by omega) (by omega) (fun h129_7 => ?_) (fun h129_7 => ?_)
                      · refine lv_iconst (v := nI 0) hx hb d_R_has_147 (by decide) ?_
                        refine lv_istore hx hb d_R_has_148 hl (by decide) rfl (fun ls hl => ?_)
                        replace hl : lv_has ls 7 [(4, .int (nI 0)), (6, .int (nI 0)), (0, .ref (a 0)), (1, .int (nI i)), (2, .int (nI j)), (3, .int (nI k)), (5, .int (nI t))] := hl
                        refine ec_iinc (k := 6) hx hb d_R_has_150 hl rfl (by decide) rfl (fun ls hl => ?_)
                        replace hl : lv_has ls 7 [(5, .int (nI (t + 1))), (4, .int (nI 0)), (6, .int (nI 0)), (0, .ref (a 0)), (1, .int (nI i)), (2, .int (nI j)), (3, .int (nI k))] := hl
                        refine lv_goto (tgt := 6) hx hb d_R_has_153 rfl ?_
                        exact ih6 _ (by omega) (t := t + 1) (f := 0) (ls := ls) (hl := lv_sub hl [3, 4, 5, 6, 1, 0] rfl) (hle := (by omega)) (hf := (by omega)) (hI := ⟨fun _ q => by rcases ec_fnd_s.mp q with q | q; exact hI.1 h102_9 q; unfold ec_rot3 at q; omega, fun q => absurd rfl q⟩) (hk6 := rfl)
                      · refine lv_aload_n hx hb d_R_has_132 rfl (lv_at hl 1 rfl) ?_
                        refine va_get (D := (dC, dI)) (ci := 5) (v := .ref (a 9)) (C := R_R) (T := T_R) (N := 18) hx hb htb in_R hown hK hP 0 rfl rfl 12 (by decide) (htb _ wd_461) (fun _ h9 => h9) rfl d_R_has_133 ?_
                        refine lv_iload hx hb d_R_has_136 (lv_at hl 6 rfl) ?_
                        refine ec_ialdN (f := w3) (i := t) hx hb hK hP 9 0 rfl rfl (by omega) (by decide) d_R_has_138 ?_
                        refine lv_iload_n hx hb d_R_has_139 rfl (lv_at hl 3 rfl) ?_
                        refine ec_icmp_ne (tgt := 147) hx hb d_R_has_140 rfl (by omega) (by omega) (fun h140_7 => ?_) (fun h140_7 => ?_)
                        · refine lv_iconst (v := nI 0) hx hb d_R_has_147 (by decide) ?_
                          refine lv_istore hx hb d_R_has_148 hl (by decide) rfl (fun ls hl => ?_)
                          replace hl : lv_has ls 7 [(4, .int (nI 0)), (6, .int (nI 0)), (0, .ref (a 0)), (1, .int (nI i)), (2, .int (nI j)), (3, .int (nI k)), (5, .int (nI t))] := hl
                          refine ec_iinc (k := 6) hx hb d_R_has_150 hl rfl (by decide) rfl (fun ls hl => ?_)
                          replace hl : lv_has ls 7 [(5, .int (nI (t + 1))), (4, .int (nI 0)), (6, .int (nI 0)), (0, .ref (a 0)), (1, .int (nI i)), (2, .int (nI j)), (3, .int (nI k))] := hl
                          refine lv_goto (tgt := 6) hx hb d_R_has_153 rfl ?_
                          exact ih6 _ (by omega) (t := t + 1) (f := 0) (ls := ls) (hl := lv_sub hl [3, 4, 5, 6, 1, 0] rfl) (hle := (by omega)) (hf := (by omega)) (hI := ⟨fun _ q => by rcases ec_fnd_s.mp q with q | q; exact hI.1 h102_9 q; unfold ec_rot3 at q; omega, fun q => absurd rfl q⟩) (hk6 := rfl)
                        · refine lv_iconst (v := nI 1) hx hb d_R_has_143 (by decide) ?_
                          refine lv_goto (tgt := 148) hx hb d_R_has_144 rfl ?_
                          refine lv_istore hx hb d_R_has_148 hl (by decide) rfl (fun ls hl => ?_)
                          replace hl : lv_has ls 7 [(4, .int (nI 1)), (6, .int (nI 0)), (0, .ref (a 0)), (1, .int (nI i)), (2, .int (nI j)), (3, .int (nI k)), (5, .int (nI t))] := hl
                          refine ec_iinc (k := 6) hx hb d_R_has_150 hl rfl (by decide) rfl (fun ls hl => ?_)
                          replace hl : lv_has ls 7 [(5, .int (nI (t + 1))), (4, .int (nI 1)), (6, .int (nI 0)), (0, .ref (a 0)), (1, .int (nI i)), (2, .int (nI j)), (3, .int (nI k))] := hl
                          refine lv_goto (tgt := 6) hx hb d_R_has_153 rfl ?_
                          exact ih6 _ (by omega) (t := t + 1) (f := 1) (ls := ls) (hl := lv_sub hl [3, 4, 5, 6, 1, 0] rfl) (hle := (by omega)) (hf := (by omega)) (hI := ⟨fun q => absurd q (by decide), fun _ => ec_fnd_s.mpr (Or.inr (by unfold ec_rot3; omega))⟩) (hk6 := rfl)
              · refine lv_aload_n hx hb d_R_has_82 rfl (lv_at hl 1 rfl) ?_
                refine va_get (D := (dC, dI)) (ci := 5) (v := .ref (a 9)) (C := R_R) (T := T_R) (N := 18) hx hb htb in_R hown hK hP 0 rfl rfl 12 (by decide) (htb _ wd_461) (fun _ h9 => h9) rfl d_R_has_83 ?_
                refine lv_iload hx hb d_R_has_86 (lv_at hl 6 rfl) ?_
                refine ec_ialdN (f := w3) (i := t) hx hb hK hP 9 0 rfl rfl (by omega) (by decide) d_R_has_88 ?_
                refine lv_iload_n hx hb d_R_has_89 rfl (lv_at hl 2 rfl) ?_
                refine ec_icmp_ne (tgt := 97) hx hb d_R_has_90 rfl (by omega) (by omega) (fun h90_2 => ?_) (fun h90_2 => ?_)
                · refine lv_iconst (v := nI 0) hx hb d_R_has_97 (by decide) ?_
                  refine lv_istore hx hb d_R_has_98 hl (by decide) rfl (fun ls hl => ?_)
                  replace hl : lv_has ls 7 [(6, .int (nI 0)), (0, .ref (a 0)), (1, .int (nI i)), (2, .int (nI j)), (3, .int (nI k)), (4, .int (nI f)), (5, .int (nI t))] := hl
                  refine lv_iload hx hb d_R_has_100 (lv_at hl 5 rfl) ?_
                  refine ec_if_ne (tgt := 143) hx hb d_R_has_102 rfl (by omega) (fun h102_10 => ?_) (fun h102_10 => ?_)
                  · refine lv_iconst (v := nI 1) hx hb d_R_has_143 (by decide) ?_
                    refine lv_goto (tgt := 148) hx hb d_R_has_144 rfl ?_
                    refine lv_istore hx hb d_R_has_148 hl (by decide) rfl (fun ls hl => ?_)
                    replace hl : lv_has ls 7 [(4, .int (nI 1)), (6, .int (nI 0)), (0, .ref (a 0)), (1, .int (nI i)), (2, .int (nI j)), (3, .int (nI k)), (5, .int (nI t))] := hl
                    refine ec_iinc (k := 6) hx hb d_R_has_150 hl rfl (by decide) rfl (fun ls hl => ?_)
                    replace hl : lv_has ls 7 [(5, .int (nI (t + 1))), (4, .int (nI 1)), (6, .int (nI 0)), (0, .ref (a 0)), (1, .int (nI i)), (2, .int (nI j)), (3, .int (nI k))] := hl
                    refine lv_goto (tgt := 6) hx hb d_R_has_153 rfl ?_
                    exact ih6 _ (by omega) (t := t + 1) (f := 1) (ls := ls) (hl := lv_sub hl [3, 4, 5, 6, 1, 0] rfl) (hle := (by omega)) (hf := (by omega)) (hI := ⟨fun q => absurd q (by decide), fun _ => ec_fnd_s.mpr (Or.inl (hI.2 h102_10))⟩) (hk6 := rfl)
                  · refine lv_iload hx hb d_R_has_105 (lv_at hl 0 rfl) ?_
                    refine ec_if_ne (tgt := 143) hx hb d_R_has_107 rfl (by omega) (fun h107_10 => ?_) (fun h107_10 => ?_)
                    · exact absurd h107_10 (by decide)
                    · refine lv_aload_n hx hb d_R_has_110 rfl (lv_at hl 1 rfl) ?_
                      refine va_get (D := (dC, dI)) (ci := 5) (v := .ref (a 7)) (C := R_R) (T := T_R) (N := 18) hx hb htb in_R hown hK hP 0 rfl rfl 10 (by decide) (htb _ wd_459) (fun _ h9 => h9) rfl d_R_has_111 ?_
                      refine lv_iload hx hb d_R_has_114 (lv_at hl 6 rfl) ?_
                      refine ec_ialdN (f := w1) (i := t) hx hb hK hP 7 0 rfl rfl (by omega) (by decide) d_R_has_116 ?_
                      refine lv_iload_n hx hb d_R_has_117 rfl (lv_at hl 4 rfl) ?_
                      refine ec_icmp_ne (tgt := 147) hx hb d_R_has_118 rfl (by omega) (by omega) (fun h118_8 => ?_) (fun h118_8 => ?_)
                      · refine lv_iconst (v := nI 0) hx hb d_R_has_147 (by decide) ?_
                        refine lv_istore hx hb d_R_has_148 hl (by decide) rfl (fun ls hl => ?_)
                        replace hl : lv_has ls 7 [(4, .int (nI 0)), (6, .int (nI 0)), (0, .ref (a 0)), (1, .int (nI i)), (2, .int (nI j)), (3, .int (nI k)), (5, .int (nI t))] := hl
                        refine ec_iinc (k := 6) hx hb d_R_has_150 hl rfl (by decide) rfl (fun ls hl => ?_)
                        replace hl : lv_has ls 7 [(5, .int (nI (t + 1))), (4, .int (nI 0)), (6, .int (nI 0)), (0, .ref (a 0)), (1, .int (nI i)), (2, .int (nI j)), (3, .int (nI k))] := hl
                        refine lv_goto (tgt := 6) hx hb d_R_has_153 rfl ?_
                        exact ih6 _ (by omega) (t := t + 1) (f := 0) (ls := ls) (hl := lv_sub hl [3, 4, 5, 6, 1, 0] rfl) (hle := (by omega)) (hf := (by omega)) (hI := ⟨fun _ q => by rcases ec_fnd_s.mp q with q | q; exact hI.1 h102_10 q; unfold ec_rot3 at q; omega, fun q => absurd rfl q⟩) (hk6 := rfl)
                      · refine lv_aload_n hx hb d_R_has_121 rfl (lv_at hl 1 rfl) ?_
                        refine va_get (D := (dC, dI)) (ci := 5) (v := .ref (a 8)) (C := R_R) (T := T_R) (N := 18) hx hb htb in_R hown hK hP 0 rfl rfl 11 (by decide) (htb _ wd_460) (fun _ h9 => h9) rfl d_R_has_122 ?_
                        refine lv_iload hx hb d_R_has_125 (lv_at hl 6 rfl) ?_
                        refine ec_ialdN (f := w2) (i := t) hx hb hK hP 8 0 rfl rfl (by omega) (by decide) d_R_has_127 ?_
                        refine lv_iload_n hx hb d_R_has_128 rfl (lv_at hl 2 rfl) ?_
                        refine ec_icmp_ne (tgt := 147) hx hb d_R_has_129 rfl (by omega) (by omega) (fun h129_8 => ?_) (fun h129_8 => ?_)
                        · refine lv_iconst (v := nI 0) hx hb d_R_has_147 (by decide) ?_
                          refine lv_istore hx hb d_R_has_148 hl (by decide) rfl (fun ls hl => ?_)
                          replace hl : lv_has ls 7 [(4, .int (nI 0)), (6, .int (nI 0)), (0, .ref (a 0)), (1, .int (nI i)), (2, .int (nI j)), (3, .int (nI k)), (5, .int (nI t))] := hl
                          refine ec_iinc (k := 6) hx hb d_R_has_150 hl rfl (by decide) rfl (fun ls hl => ?_)
                          replace hl : lv_has ls 7 [(5, .int (nI (t + 1))), (4, .int (nI 0)), (6, .int (nI 0)), (0, .ref (a 0)), (1, .int (nI i)), (2, .int (nI j)), (3, .int (nI k))] := hl
                          refine lv_goto (tgt := 6) hx hb d_R_has_153 rfl ?_
                          exact ih6 _ (by omega) (t := t + 1) (f := 0) (ls := ls) (hl := lv_sub hl [3, 4, 5, 6, 1, 0] rfl) (hle := (by omega)) (hf := (by omega)) (hI := ⟨fun _ q => by rcases ec_fnd_s.mp q with q | q; exact hI.1 h102_10 q; unfold ec_rot3 at q; omega, fun q => absurd rfl q⟩) (hk6 := rfl)
                        · refine lv_aload_n hx hb d_R_has_132 rfl (lv_at hl 1 rfl) ?_
                          refine va_get (D := (dC, dI)) (ci := 5) (v := .ref (a 9)) (C := R_R) (T := T_R) (N := 18) hx hb htb in_R hown hK hP 0 rfl rfl 12 (by decide) (htb _ wd_461) (fun _ h9 => h9) rfl d_R_has_133 ?_
                          refine lv_iload hx hb d_R_has_136 (lv_at hl 6 rfl) ?_
                          refine ec_ialdN (f := w3) (i := t) hx hb hK hP 9 0 rfl rfl (by omega) (by decide) d_R_has_138 ?_
                          refine lv_iload_n hx hb d_R_has_139 rfl (lv_at hl 3 rfl) ?_
                          refine ec_icmp_ne (tgt := 147) hx hb d_R_has_140 rfl (by omega) (by omega) (fun h140_8 => ?_) (fun h140_8 => ?_)
                          · refine lv_iconst (v := nI 0) hx hb d_R_has_147 (by decide) ?_
                            refine lv_istore hx hb d_R_has_148 hl (by decide) rfl (fun ls hl => ?_)
                            replace hl : lv_has ls 7 [(4, .int (nI 0)), (6, .int (nI 0)), (0, .ref (a 0)), (1, .int (nI i)), (2, .int (nI j)), (3, .int (nI k)), (5, .int (nI t))] := hl
                            refine ec_iinc (k := 6) hx hb d_R_has_150 hl rfl (by decide) rfl (fun ls hl => ?_)
                            replace hl : lv_has ls 7 [(5, .int (nI (t + 1))), (4, .int (nI 0)), (6, .int (nI 0)), (0, .ref (a 0)), (1, .int (nI i)), (2, .int (nI j)), (3, .int (nI k))] := hl
                            refine lv_goto (tgt := 6) hx hb d_R_has_153 rfl ?_
                            exact ih6 _ (by omega) (t := t + 1) (f := 0) (ls := ls) (hl := lv_sub hl [3, 4, 5, 6, 1, 0] rfl) (hle := (by omega)) (hf := (by omega)) (hI := ⟨fun _ q => by rcases ec_fnd_s.mp q with q | q; exact hI.1 h102_10 q; unfold ec_rot3 at q; omega, fun q => absurd rfl q⟩) (hk6 := rfl)
                          · refine lv_iconst (v := nI 1) hx hb d_R_has_143 (by decide) ?_
                            refine lv_goto (tgt := 148) hx hb d_R_has_144 rfl ?_
                            refine lv_istore hx hb d_R_has_148 hl (by decide) rfl (fun ls hl => ?_)
                            replace hl : lv_has ls 7 [(4, .int (nI 1)), (6, .int (nI 0)), (0, .ref (a 0)), (1, .int (nI i)), (2, .int (nI j)), (3, .int (nI k)), (5, .int (nI t))] := hl
                            refine ec_iinc (k := 6) hx hb d_R_has_150 hl rfl (by decide) rfl (fun ls hl => ?_)
                            replace hl : lv_has ls 7 [(5, .int (nI (t + 1))), (4, .int (nI 1)), (6, .int (nI 0)), (0, .ref (a 0)), (1, .int (nI i)), (2, .int (nI j)), (3, .int (nI k))] := hl
                            refine lv_goto (tgt := 6) hx hb d_R_has_153 rfl ?_
                            exact ih6 _ (by omega) (t := t + 1) (f := 1) (ls := ls) (hl := lv_sub hl [3, 4, 5, 6, 1, 0] rfl) (hle := (by omega)) (hf := (by omega)) (hI := ⟨fun q => absurd q (by decide), fun _ => ec_fnd_s.mpr (Or.inr (by unfold ec_rot3; omega))⟩) (hk6 := rfl)
                · refine lv_iconst (v := nI 1) hx hb d_R_has_93 (by decide) ?_
                  refine lv_goto (tgt := 98) hx hb d_R_has_94 rfl ?_
                  refine lv_istore hx hb d_R_has_98 hl (by decide) rfl (fun ls hl => ?_)
                  replace hl : lv_has ls 7 [(6, .int (nI 1)), (0, .ref (a 0)), (1, .int (nI i)), (2, .int (nI j)), (3, .int (nI k)), (4, .int (nI f)), (5, .int (nI t))] := hl
                  refine lv_iload hx hb d_R_has_100 (lv_at hl 5 rfl) ?_
                  refine ec_if_ne (tgt := 143) hx hb d_R_has_102 rfl (by omega) (fun h102_11 => ?_) (fun h102_11 => ?_)
                  · refine lv_iconst (v := nI 1) hx hb d_R_has_143 (by decide) ?_
                    refine lv_goto (tgt := 148) hx hb d_R_has_144 rfl ?_
                    refine lv_istore hx hb d_R_has_148 hl (by decide) rfl (fun ls hl => ?_)
                    replace hl : lv_has ls 7 [(4, .int (nI 1)), (6, .int (nI 1)), (0, .ref (a 0)), (1, .int (nI i)), (2, .int (nI j)), (3, .int (nI k)), (5, .int (nI t))] := hl
                    refine ec_iinc (k := 6) hx hb d_R_has_150 hl rfl (by decide) rfl (fun ls hl => ?_)
                    replace hl : lv_has ls 7 [(5, .int (nI (t + 1))), (4, .int (nI 1)), (6, .int (nI 1)), (0, .ref (a 0)), (1, .int (nI i)), (2, .int (nI j)), (3, .int (nI k))] := hl
                    refine lv_goto (tgt := 6) hx hb d_R_has_153 rfl ?_
                    exact ih6 _ (by omega) (t := t + 1) (f := 1) (ls := ls) (hl := lv_sub hl [3, 4, 5, 6, 1, 0] rfl) (hle := (by omega)) (hf := (by omega)) (hI := ⟨fun q => absurd q (by decide), fun _ => ec_fnd_s.mpr (Or.inl (hI.2 h102_11))⟩) (hk6 := rfl)
                  · refine lv_iload hx hb d_R_has_105 (lv_at hl 0 rfl) ?_
                    refine ec_if_ne (tgt := 143) hx hb d_R_has_107 rfl (by omega) (fun h107_11 => ?_) (fun h107_11 => ?_)
                    · refine lv_iconst (v := nI 1) hx hb d_R_has_143 (by decide) ?_
                      refine lv_goto (tgt := 148) hx hb d_R_has_144 rfl ?_
                      refine lv_istore hx hb d_R_has_148 hl (by decide) rfl (fun ls hl => ?_)
                      replace hl : lv_has ls 7 [(4, .int (nI 1)), (6, .int (nI 1)), (0, .ref (a 0)), (1, .int (nI i)), (2, .int (nI j)), (3, .int (nI k)), (5, .int (nI t))] := hl
                      refine ec_iinc (k := 6) hx hb d_R_has_150 hl rfl (by decide) rfl (fun ls hl => ?_)
                      replace hl : lv_has ls 7 [(5, .int (nI (t + 1))), (4, .int (nI 1)), (6, .int (nI 1)), (0, .ref (a 0)), (1, .int (nI i)), (2, .int (nI j)), (3, .int (nI k))] := hl
                      refine lv_goto (tgt := 6) hx hb d_R_has_153 rfl ?_
                      exact ih6 _ (by omega) (t := t + 1) (f := 1) (ls := ls) (hl := lv_sub hl [3, 4, 5, 6, 1, 0] rfl) (hle := (by omega)) (hf := (by omega)) (hI := ⟨fun q => absurd q (by decide), fun _ => ec_fnd_s.mpr (Or.inr (by unfold ec_rot3; omega))⟩) (hk6 := rfl)
                    · exact absurd h107_11 (by decide)
        · refine lv_iconst (v := nI 1) hx hb d_R_has_48 (by decide) ?_
          refine lv_goto (tgt := 53) hx hb d_R_has_49 rfl ?_
          refine lv_istore hx hb d_R_has_53 hl (by decide) rfl (fun ls hl => ?_)
          replace hl : lv_has ls 7 [(6, .int (nI 1)), (0, .ref (a 0)), (1, .int (nI i)), (2, .int (nI j)), (3, .int (nI k)), (4, .int (nI f)), (5, .int (nI t))] := hl
          refine lv_iload hx hb d_R_has_55 (lv_at hl 0 rfl) ?_
          refine ec_if_ne (tgt := 93) hx hb d_R_has_57 rfl (by omega) (fun h57_3 => ?_) (fun h57_3 => ?_)
          · refine lv_iconst (v := nI 1) hx hb d_R_has_93 (by decide) ?_
            refine lv_goto (tgt := 98) hx hb d_R_has_94 rfl ?_
            refine lv_istore hx hb d_R_has_98 hl (by decide) rfl (fun ls hl => ?_)
            replace hl : lv_has ls 7 [(6, .int (nI 1)), (0, .ref (a 0)), (1, .int (nI i)), (2, .int (nI j)), (3, .int (nI k)), (4, .int (nI f)), (5, .int (nI t))] := hl
            refine lv_iload hx hb d_R_has_100 (lv_at hl 5 rfl) ?_
            refine ec_if_ne (tgt := 143) hx hb d_R_has_102 rfl (by omega) (fun h102_12 => ?_) (fun h102_12 => ?_)
            · refine lv_iconst (v := nI 1) hx hb d_R_has_143 (by decide) ?_
              refine lv_goto (tgt := 148) hx hb d_R_has_144 rfl ?_
              refine lv_istore hx hb d_R_has_148 hl (by decide) rfl (fun ls hl => ?_)
              replace hl : lv_has ls 7 [(4, .int (nI 1)), (6, .int (nI 1)), (0, .ref (a 0)), (1, .int (nI i)), (2, .int (nI j)), (3, .int (nI k)), (5, .int (nI t))] := hl
              refine ec_iinc (k := 6) hx hb d_R_has_150 hl rfl (by decide) rfl (fun ls hl => ?_)
              replace hl : lv_has ls 7 [(5, .int (nI (t + 1))), (4, .int (nI 1)), (6, .int (nI 1)), (0, .ref (a 0)), (1, .int (nI i)), (2, .int (nI j)), (3, .int (nI k))] := hl
              refine lv_goto (tgt := 6) hx hb d_R_has_153 rfl ?_
              exact ih6 _ (by omega) (t := t + 1) (f := 1) (ls := ls) (hl := lv_sub hl [3, 4, 5, 6, 1, 0] rfl) (hle := (by omega)) (hf := (by omega)) (hI := ⟨fun q => absurd q (by decide), fun _ => ec_fnd_s.mpr (Or.inl (hI.2 h102_12))⟩) (hk6 := rfl)
            · refine lv_iload hx hb d_R_has_105 (lv_at hl 0 rfl) ?_
              refine ec_if_ne (tgt := 143) hx hb d_R_has_107 rfl (by omega) (fun h107_12 => ?_) (fun h107_12 => ?_)
              · refine lv_iconst (v := nI 1) hx hb d_R_has_143 (by decide) ?_
                refine lv_goto (tgt := 148) hx hb d_R_has_144 rfl ?_
                refine lv_istore hx hb d_R_has_148 hl (by decide) rfl (fun ls hl => ?_)
                replace hl : lv_has ls 7 [(4, .int (nI 1)), (6, .int (nI 1)), (0, .ref (a 0)), (1, .int (nI i)), (2, .int (nI j)), (3, .int (nI k)), (5, .int (nI t))] := hl
                refine ec_iinc (k := 6) hx hb d_R_has_150 hl rfl (by decide) rfl (fun ls hl => ?_)
                replace hl : lv_has ls 7 [(5, .int (nI (t + 1))), (4, .int (nI 1)), (6, .int (nI 1)), (0, .ref (a 0)), (1, .int (nI i)), (2, .int (nI j)), (3, .int (nI k))] := hl
                refine lv_goto (tgt := 6) hx hb d_R_has_153 rfl ?_
                exact ih6 _ (by omega) (t := t + 1) (f := 1) (ls := ls) (hl := lv_sub hl [3, 4, 5, 6, 1, 0] rfl) (hle := (by omega)) (hf := (by omega)) (hI := ⟨fun q => absurd q (by decide), fun _ => ec_fnd_s.mpr (Or.inr (by unfold ec_rot3; omega))⟩) (hk6 := rfl)
              · exact absurd h107_12 (by decide)
          · exact absurd h57_3 (by decide)

set_option maxRecDepth 100000 in
set_option maxHeartbeats 4000000 in
theorem c_R_grow (l : Launch) (dC : Nat → ClassId) (dI : Nat → Nat → Nat) (a : Nat → Nat) (cI cZ cJ : ClassId) (rn : Nat) (rx : Nat → Int32) (ry : Nat → Int32) (rl : Nat) (rf : Nat → Nat) (rt : Nat → Nat) (rh : Nat) (gx : Nat → Int32) (gy : Nat → Int32) (rc : Nat) (w1 : Nat → Nat) (w2 : Nat → Nat) (w3 : Nat → Nat) (rg : Nat → Prop) (rk : Nat) (kc : Nat → Nat) (kf : Nat → Prop) (kp : Nat → Int64) (rest : va_W) (i : Nat) (j : Nat) (glr : Nat → Nat) (gS : ec_SI rn rx ry rl rf rt glr) (gw : ∀ t, t < rc → w1 t < rn ∧ w2 t < rn ∧ w3 t < rn) (grc : rc ≤ 24) (hi : i < rn) (hj : j < rn) (hij : i ≠ j) (A : Nat → Prop) (hD : va_D A (wR a cI cZ cJ rn rx ry rl rf rt rh gx gy rc w1 w2 w3 rg rk kc kf kp ++ rest)) : Met l y_R_grow (Cond.code y_R_grow b_R_grow 4 none :: ec_tbl) ({ frames := 6, cells := 0, slots := 0, locals := 155 }) (va_Pc [.ref (a 0), .int (nI i), .int (nI j)] (fun U => va_P (dC, dI) vwCl (wR a cI cZ cJ rn rx ry rl rf rt rh gx gy rc w1 w2 w3 rg rk kc kf kp ++ rest) U.heap ∧ va_K (dC, dI) vwCl (ec_tys cI cZ cJ) U)) (va_Qv (fun (u : ec_T6) => ec_GR rn (ec_P rx ry) (ec_E rl rf rt) rc w1 w2 w3 rg i j u) (fun u t => va_P (dC, dI) vwCl (wR a cI cZ cJ rn rx ry rl rf rt rh gx gy u.1 u.2.1 u.2.2.1 u.2.2.2.1 u.2.2.2.2.1 rk kc kf u.2.2.2.2.2 ++ rest) t.heap) A) 0 0 A := by
  refine Met.ofW (cc := b_R_grow) (maxL := 4) (ret := none) (by decide) rfl ?_
  intro p e s m args below meth c s₁ B hml hv0
  obtain ⟨rfl, hP, hK⟩ := hv0
  have hx := B.exec
  have hb := B.bytes
  have hr := B.returns
  have hts := atoms_spec (ws := (Cond.code y_R_grow b_R_grow 4 none :: ec_tbl)) B.pre
  have htb : ∀ w ∈ ec_tbl, w.before _ s = true := fun w h => hts w (List.mem_cons_of_mem _ h)
  clear hts
  have hown : s.vm.findClass "ExactMeshModel" = some m.cls := findClass_of_methodNamed B.named
  have hlocks := B.notSynchronized
  have hl := lv_entry ([.ref (a 0), .int (nI i), .int (nI j)]) (n := 4) (Nat.le_of_ble_eq_true rfl)
  rw [lg_entry_eq]
  generalize (lg_sl ([.ref (a 0), .int (nI i), .int (nI j)]) ++ List.replicate (4 - (lg_sl ([.ref (a 0), .int (nI i), .int (nI j)])).length) Slot.unset).toArray = ls at hl ⊢
  replace hl : lv_has ls 4 [(0, .ref (a 0)), (1, .int (nI i)), (2, .int (nI j))] := hl
  refine ec_start (fun H locs hH hlocs => ?_)
  replace hP : va_P (dC, dI) vwCl (wR a cI cZ cJ rn rx ry rl rf rt rh gx gy rc w1 w2 w3 rg rk kc kf kp ++ rest) H := by rw [hH]; exact hP
  have hS : va_S A s.heap H locs := by rw [hH, hlocs]; exact va_S.rf
  clear hH hlocs
  have g12 := gS.1
  have gN := gS.2.1
  have grl := gS.2.2.2.1
  have gll := gS.links
  refine lv_aload_n hx hb d_R_grow_0 rfl (lv_at hl 0 rfl) ?_
  refine lv_iload_n hx hb d_R_grow_1 rfl (lv_at hl 1 rfl) ?_
  refine lv_iload_n hx hb d_R_grow_2 rfl (lv_at hl 2 rfl) ?_
  refine ec_vQi (C := "ExactMeshModel") (ci := 5) (q := (R_R, T_R, 18)) (q0 := 0) (As := [.int (nI i), .int (nI j)]) (rest := []) ⟨hx, hb, hml, hown, htb⟩ (c_R_third l dC dI a cI cZ cJ rn rx ry rl rf rt rh gx gy rc w1 w2 w3 rg rk kc kf kp rest i j glr gS (by omega) (by omega) (by omega) A hD) kv_R_third hK hP rfl rfl rfl hS wd_590 ⟨Nat.le_of_ble_eq_true rfl, Nat.le_of_ble_eq_true rfl⟩ ⟨rfl, rfl⟩ rfl hl.1 rfl (Nat.le_of_ble_eq_true rfl) d_R_grow_3 ⟨Nat.zero_le _, Nat.zero_le _⟩ (fun r3 ur3 H locs hr3 hP hS => ?_)
  replace hr3 : ∃ o, r3 = ec_oi o ∧ ec_thd rn (ec_P rx ry) (ec_E rl rf rt) i j o := hr3
  replace hP : va_P (dC, dI) vwCl (wR a cI cZ cJ rn rx ry rl rf rt rh gx gy rc w1 w2 w3 rg rk kc kf ur3 ++ rest) H := hP
  replace hD : va_D A (wR a cI cZ cJ rn rx ry rl rf rt rh gx gy rc w1 w2 w3 rg rk kc kf ur3 ++ rest) := ec_Dk hD rfl
  obtain ⟨or3, er3, hor3⟩ := hr3
  subst er3
  refine lv_istore_n hx hb d_R_grow_6 rfl hl (by decide) rfl (fun ls hl => ?_)
  replace hl : lv_has ls 4 [(3, .int (ec_oi or3)), (0, .ref (a 0)), (1, .int (nI i)), (2, .int (nI j))] := hl
  generalize hqvc : or3 = ovc at hl ⊢
  cases ovc with
  | none =>
    replace hl : lv_has ls 4 [(3, .int (-1)), (0, .ref (a 0)), (1, .int (nI i)), (2, .int (nI j))] := hl
    refine lv_iload_n hx hb d_R_grow_7 rfl (lv_at hl 0 rfl) ?_
    refine lv_if_lt (tgt := 80) hx hb d_R_grow_8 rfl (fun h8 => ?_) (fun h8 => ?_)
    · exact W.vret hx hb hr (fun tS ht hW => ⟨⟨(rc, w1, w2, w3, rg, ur3), rfl, ⟨none, by rw [← hqvc]; exact hor3, Or.inr ⟨fun c q => (by cases q), rfl⟩⟩, by show va_P _ _ _ tS.heap; rw [ht]; exact hP⟩, hS.F ht⟩) hS.2.2 d_R_grow_80
    · exact absurd (by decide) h8
  | some vc =>
    replace hl : lv_has ls 4 [(3, .int (nI vc)), (0, .ref (a 0)), (1, .int (nI i)), (2, .int (nI j))] := hl
    have hvc := (hor3.2 vc hqvc).1
    refine lv_iload_n hx hb d_R_grow_7 rfl (lv_at hl 0 rfl) ?_
    refine ec_if_lt (tgt := 80) hx hb d_R_grow_8 rfl (by omega) ?_
    refine lv_aload_n hx hb d_R_grow_11 rfl (lv_at hl 1 rfl) ?_
    refine va_get (D := (dC, dI)) (ci := 5) (v := .int (nI rc)) (C := R_R) (T := T_R) (N := 18) hx hb htb in_R hown hK hP 0 rfl rfl 9 (by decide) (htb _ wd_458) (fun _ h9 => h9) rfl d_R_grow_12 ?_
    refine lv_bipush (v := nI 24) hx hb d_R_grow_15 (by decide) ?_
    refine ec_icmp_ge (tgt := 80) hx hb d_R_grow_17 rfl (by omega) (by omega) (fun h17 => ?_) (fun h17 => ?_)
    · exact W.vret hx hb hr (fun tS ht hW => ⟨⟨(rc, w1, w2, w3, rg, ur3), rfl, ⟨some vc, by rw [← hqvc]; exact hor3, Or.inr ⟨fun c q => by cases q; exact Or.inl h17, rfl⟩⟩, by show va_P _ _ _ tS.heap; rw [ht]; exact hP⟩, hS.F ht⟩) hS.2.2 d_R_grow_80
    · refine lv_aload_n hx hb d_R_grow_20 rfl (lv_at hl 1 rfl) ?_
      refine lv_iload_n hx hb d_R_grow_21 rfl (lv_at hl 2 rfl) ?_
      refine lv_iload_n hx hb d_R_grow_22 rfl (lv_at hl 3 rfl) ?_
      refine lv_iload_n hx hb d_R_grow_23 rfl (lv_at hl 0 rfl) ?_
      refine ec_vSi (C := "ExactMeshModel") (ci := 5) (q := (R_R, T_R, 18)) (q0 := 0) (As := [.int (nI i), .int (nI j), .int (nI vc)]) (rest := []) ⟨hx, hb, hml, hown, htb⟩ (c_R_has l dC dI a cI cZ cJ rn rx ry rl rf rt rh gx gy rc w1 w2 w3 rg rk kc kf ur3 rest i j vc g12 gw grc (by omega) (by omega) (by omega)) kv_R_has hK hP rfl rfl rfl wd_602 ⟨Nat.le_of_ble_eq_true rfl, Nat.le_of_ble_eq_true rfl⟩ ⟨rfl, rfl⟩ rfl hl.1 rfl (Nat.le_of_ble_eq_true rfl) d_R_grow_24 ⟨Nat.zero_le _, Nat.zero_le _⟩ (fun r24 hr24 => ?_)
      replace hr24 : ec_isB r24 (ec_fnd rc w1 w2 w3 i j vc) := hr24
      refine ec_if_neB (tgt := 80) hx hb hr24 d_R_grow_27 rfl (fun h27 => ?_) (fun h27 => ?_)
      · exact W.vret hx hb hr (fun tS ht hW => ⟨⟨(rc, w1, w2, w3, rg, ur3), rfl, ⟨some vc, by rw [← hqvc]; exact hor3, Or.inr ⟨fun c q => by cases q; exact Or.inr h27, rfl⟩⟩, by show va_P _ _ _ tS.heap; rw [ht]; exact hP⟩, hS.F ht⟩) hS.2.2 d_R_grow_80
      · refine lv_aload_n hx hb d_R_grow_30 rfl (lv_at hl 1 rfl) ?_
        refine va_get (D := (dC, dI)) (ci := 5) (v := .ref (a 7)) (C := R_R) (T := T_R) (N := 18) hx hb htb in_R hown hK hP 0 rfl rfl 10 (by decide) (htb _ wd_459) (fun _ h9 => h9) rfl d_R_grow_31 ?_
        refine lv_aload_n hx hb d_R_grow_34 rfl (lv_at hl 1 rfl) ?_
        refine va_get (D := (dC, dI)) (ci := 5) (v := .int (nI rc)) (C := R_R) (T := T_R) (N := 18) hx hb htb in_R hown hK hP 0 rfl rfl 9 (by decide) (htb _ wd_458) (fun _ h9 => h9) rfl d_R_grow_35 ?_
        refine lv_iload_n hx hb d_R_grow_38 rfl (lv_at hl 2 rfl) ?_
        refine ec_iastN (f := w1) (i := rc) (x := i) hx hb hK hP hD hS 7 0 rfl rfl rfl (by omega) (by decide) d_R_grow_39 (fun H locs hP hD hS => ?_)
        replace hP : va_P (dC, dI) vwCl (wR a cI cZ cJ rn rx ry rl rf rt rh gx gy rc (va_up w1 rc i) w2 w3 rg rk kc kf ur3 ++ rest) H := hP
        replace hD : va_D A (wR a cI cZ cJ rn rx ry rl rf rt rh gx gy rc (va_up w1 rc i) w2 w3 rg rk kc kf ur3 ++ rest) := hD
        refine lv_aload_n hx hb d_R_grow_40 rfl (lv_at hl 1 rfl) ?_
        refine va_get (D := (dC, dI)) (ci := 5) (v := .ref (a 8)) (C := R_R) (T := T_R) (N := 18) hx hb htb in_R hown hK hP 0 rfl rfl 11 (by decide) (htb _ wd_460) (fun _ h9 => h9) rfl d_R_grow_41 ?_
        refine lv_aload_n hx hb d_R_grow_44 rfl (lv_at hl 1 rfl) ?_
        refine va_get (D := (dC, dI)) (ci := 5) (v := .int (nI rc)) (C := R_R) (T := T_R) (N := 18) hx hb htb in_R hown hK hP 0 rfl rfl 9 (by decide) (htb _ wd_458) (fun _ h9 => h9) rfl d_R_grow_45 ?_
        refine lv_iload_n hx hb d_R_grow_48 rfl (lv_at hl 3 rfl) ?_
        refine ec_iastN (f := w2) (i := rc) (x := j) hx hb hK hP hD hS 8 0 rfl rfl rfl (by omega) (by decide) d_R_grow_49 (fun H locs hP hD hS => ?_)
        replace hP : va_P (dC, dI) vwCl (wR a cI cZ cJ rn rx ry rl rf rt rh gx gy rc (va_up w1 rc i) (va_up w2 rc j) w3 rg rk kc kf ur3 ++ rest) H := hP
        replace hD : va_D A (wR a cI cZ cJ rn rx ry rl rf rt rh gx gy rc (va_up w1 rc i) (va_up w2 rc j) w3 rg rk kc kf ur3 ++ rest) := hD
        refine lv_aload_n hx hb d_R_grow_50 rfl (lv_at hl 1 rfl) ?_
        refine va_get (D := (dC, dI)) (ci := 5) (v := .ref (a 9)) (C := R_R) (T := T_R) (N := 18) hx hb htb in_R hown hK hP 0 rfl rfl 12 (by decide) (htb _ wd_461) (fun _ h9 => h9) rfl d_R_grow_51 ?_
        refine lv_aload_n hx hb d_R_grow_54 rfl (lv_at hl 1 rfl) ?_
        refine va_get (D := (dC, dI)) (ci := 5) (v := .int (nI rc)) (C := R_R) (T := T_R) (N := 18) hx hb htb in_R hown hK hP 0 rfl rfl 9 (by decide) (htb _ wd_458) (fun _ h9 => h9) rfl d_R_grow_55 ?_
        refine lv_iload_n hx hb d_R_grow_58 rfl (lv_at hl 0 rfl) ?_
        refine ec_iastN (f := w3) (i := rc) (x := vc) hx hb hK hP hD hS 9 0 rfl rfl rfl (by omega) (by decide) d_R_grow_59 (fun H locs hP hD hS => ?_)
        replace hP : va_P (dC, dI) vwCl (wR a cI cZ cJ rn rx ry rl rf rt rh gx gy rc (va_up w1 rc i) (va_up w2 rc j) (va_up w3 rc vc) rg rk kc kf ur3 ++ rest) H := hP
        replace hD : va_D A (wR a cI cZ cJ rn rx ry rl rf rt rh gx gy rc (va_up w1 rc i) (va_up w2 rc j) (va_up w3 rc vc) rg rk kc kf ur3 ++ rest) := hD
        refine lv_aload_n hx hb d_R_grow_60 rfl (lv_at hl 1 rfl) ?_
        refine va_get (D := (dC, dI)) (ci := 5) (v := .ref (a 10)) (C := R_R) (T := T_R) (N := 18) hx hb htb in_R hown hK hP 0 rfl rfl 13 (by decide) (htb _ wd_462) (fun _ h9 => h9) rfl d_R_grow_61 ?_
        refine lv_aload_n hx hb d_R_grow_64 rfl (lv_at hl 1 rfl) ?_
        refine va_get (D := (dC, dI)) (ci := 5) (v := .int (nI rc)) (C := R_R) (T := T_R) (N := 18) hx hb htb in_R hown hK hP 0 rfl rfl 9 (by decide) (htb _ wd_458) (fun _ h9 => h9) rfl d_R_grow_65 ?_
        refine lv_iconst (v := nI 0) hx hb d_R_grow_68 (by decide) ?_
        refine ec_zastZ (f := rg) (i := rc) (x := False) hx hb hK hP hD hS 10 1 rfl rfl (ec_bp_f (fun h => h)).symm (by omega) (by decide) d_R_grow_69 (fun H locs hP hD hS => ?_)
        replace hP : va_P (dC, dI) vwCl (wR a cI cZ cJ rn rx ry rl rf rt rh gx gy rc (va_up w1 rc i) (va_up w2 rc j) (va_up w3 rc vc) (va_up rg rc False) rk kc kf ur3 ++ rest) H := hP
        replace hD : va_D A (wR a cI cZ cJ rn rx ry rl rf rt rh gx gy rc (va_up w1 rc i) (va_up w2 rc j) (va_up w3 rc vc) (va_up rg rc False) rk kc kf ur3 ++ rest) := hD
        refine lv_aload_n hx hb d_R_grow_70 rfl (lv_at hl 1 rfl) ?_
        refine lv_dup hx hb d_R_grow_71 rfl ?_
        refine va_get (D := (dC, dI)) (ci := 5) (v := .int (nI rc)) (C := R_R) (T := T_R) (N := 18) hx hb htb in_R hown hK hP 0 rfl rfl 9 (by decide) (htb _ wd_458) (fun _ h9 => h9) rfl d_R_grow_72 ?_
        refine lv_iconst (v := nI 1) hx hb d_R_grow_75 (by decide) ?_
        refine ec_iadd hx hb d_R_grow_76 ?_
        refine va_put (D := (dC, dI)) (ci := 5) (v := .int (nI (rc + 1))) (ty := .int) (C := R_R) (T := T_R) (N := 18) hx hb htb in_R t_R ty_R nm_R hown hK hP hD hS 0 rfl rfl 9 (by decide) (htb _ wd_458) (fun _ h9 => h9) rfl (by decide +kernel) rfl rfl (Nat.le_of_ble_eq_true rfl) d_R_grow_77 (fun H locs hP hD hS => ?_)
        replace hP : va_P (dC, dI) vwCl (wR a cI cZ cJ rn rx ry rl rf rt rh gx gy (rc + 1) (va_up w1 rc i) (va_up w2 rc j) (va_up w3 rc vc) (va_up rg rc False) rk kc kf ur3 ++ rest) H := hP
        replace hD : va_D A (wR a cI cZ cJ rn rx ry rl rf rt rh gx gy (rc + 1) (va_up w1 rc i) (va_up w2 rc j) (va_up w3 rc vc) (va_up rg rc False) rk kc kf ur3 ++ rest) := hD
        exact W.vret hx hb hr (fun tS ht hW => ⟨⟨(rc + 1, va_up w1 rc i, va_up w2 rc j, va_up w3 rc vc, va_up rg rc False, ur3), rfl, ⟨some vc, by rw [← hqvc]; exact hor3, Or.inl ⟨vc, rfl, h27, rfl⟩⟩, by show va_P _ _ _ tS.heap; rw [ht]; exact hP⟩, hS.F ht⟩) hS.2.2 d_R_grow_80

set_option maxRecDepth 100000 in
set_option maxHeartbeats 4000000 in
theorem c_R_onHull (l : Launch) (dC : Nat → ClassId) (dI : Nat → Nat → Nat) (a : Nat → Nat) (cI cZ cJ : ClassId) (rn : Nat) (rx : Nat → Int32) (ry : Nat → Int32) (rl : Nat) (rf : Nat → Nat) (rt : Nat → Nat) (rh : Nat) (gx : Nat → Int32) (gy : Nat → Int32) (rc : Nat) (w1 : Nat → Nat) (w2 : Nat → Nat) (w3 : Nat → Nat) (rg : Nat → Prop) (rk : Nat) (kc : Nat → Nat) (kf : Nat → Prop) (kp : Nat → Int64) (rest : va_W) (i : Nat) (j : Nat) (g12 : rn ≤ 12) (gN : ∀ i, i < rn → ec_near (rx i) ∧ ec_near (ry i)) (hi : i < rn) (hj : j < rn) : Met l y_R_onHull (Cond.code y_R_onHull b_R_onHull 8 (some .boolean) :: ec_tbl) ({ frames := 3, cells := 0, slots := 0, locals := 85 }) (va_Pc [.ref (a 0), .int (nI i), .int (nI j)] (fun U => va_P (dC, dI) vwCl (wR a cI cZ cJ rn rx ry rl rf rt rh gx gy rc w1 w2 w3 rg rk kc kf kp ++ rest) U.heap ∧ va_K (dC, dI) vwCl (ec_tys cI cZ cJ) U)) (vp_Si (fun r : Int32 => ec_isB r (ec_hul rn (ec_P rx ry) i j))) 0 0 (fun _ => False) := by
  refine Met.ofW (cc := b_R_onHull) (maxL := 8) (ret := (some .boolean)) (by decide) rfl ?_
  intro p e s m args below meth c s₁ B hml hv0
  obtain ⟨rfl, hP, hK⟩ := hv0
  have hx := B.exec
  have hb := B.bytes
  have hr := B.returns
  have hts := atoms_spec (ws := (Cond.code y_R_onHull b_R_onHull 8 (some .boolean) :: ec_tbl)) B.pre
  have htb : ∀ w ∈ ec_tbl, w.before _ s = true := fun w h => hts w (List.mem_cons_of_mem _ h)
  clear hts
  have hown : s.vm.findClass "ExactMeshModel" = some m.cls := findClass_of_methodNamed B.named
  have hlocks := B.notSynchronized
  have hl := lv_entry ([.ref (a 0), .int (nI i), .int (nI j)]) (n := 8) (Nat.le_of_ble_eq_true rfl)
  rw [lg_entry_eq]
  generalize (lg_sl ([.ref (a 0), .int (nI i), .int (nI j)]) ++ List.replicate (8 - (lg_sl ([.ref (a 0), .int (nI i), .int (nI j)])).length) Slot.unset).toArray = ls at hl ⊢
  replace hl : lv_has ls 8 [(0, .ref (a 0)), (1, .int (nI i)), (2, .int (nI j))] := hl
  refine lv_iconst (v := nI 0) hx hb d_R_onHull_0 (by decide) ?_
  refine lv_istore_n hx hb d_R_onHull_1 rfl hl (by decide) rfl (fun ls hl => ?_)
  replace hl : lv_has ls 8 [(3, .int (nI 0)), (0, .ref (a 0)), (1, .int (nI i)), (2, .int (nI j))] := hl
  refine lv_iconst (v := nI 0) hx hb d_R_onHull_2 (by decide) ?_
  refine lv_istore hx hb d_R_onHull_3 hl (by decide) rfl (fun ls hl => ?_)
  replace hl : lv_has ls 8 [(4, .int (nI 0)), (3, .int (nI 0)), (0, .ref (a 0)), (1, .int (nI i)), (2, .int (nI j))] := hl
  obtain ⟨t, e_t⟩ : ∃ z : Nat, z = 0 := ⟨_, rfl⟩
  obtain ⟨f, e_f⟩ : ∃ z : Nat, z = 0 := ⟨_, rfl⟩
  replace hl : lv_has ls 8 [(0, .ref (a 0)), (1, .int (nI i)), (2, .int (nI j)), (3, .int (nI f)), (4, .int (nI t))] := by (try simp only [e_t, e_f]); exact lv_sub hl [2, 3, 4, 1, 0] rfl
  have hle : t ≤ rn := by omega
  have hf : f ≤ 1 := by omega
  have hI : ∀ v, v < t → ec_hu1 (ec_P rx ry) i j v := by exact fun v hv => by omega
  have hI2 : ec_hu2 (ec_P rx ry) i j f t := by simp only [e_t, e_f]; exact ⟨fun _ c hc => by omega, fun q => absurd rfl q⟩
  clear e_f e_t
  generalize hk5 : rn - t = k5
  induction k5 using Nat.strongRecOn generalizing t f ls with
  | ind k5 ih5 =>
  refine lv_iload hx hb d_R_onHull_5 (lv_at hl 4 rfl) ?_
  refine lv_aload_n hx hb d_R_onHull_7 rfl (lv_at hl 0 rfl) ?_
  refine va_get (D := (dC, dI)) (ci := 5) (v := .int (nI rn)) (C := R_R) (T := T_R) (N := 18) hx hb htb in_R hown hK hP 0 rfl rfl 0 (by decide) (htb _ wd_449) (fun _ h9 => h9) rfl d_R_onHull_8 ?_
  refine ec_icmp_ge (tgt := 105) hx hb d_R_onHull_11 rfl (by omega) (by omega) (fun h11 => ?_) (fun h11 => ?_)
  · refine lv_iload_n hx hb d_R_onHull_105 rfl (lv_at hl 1 rfl) ?_
    refine lv_iload_n hx hb d_R_onHull_106 rfl (lv_at hl 2 rfl) ?_
    refine ec_icmp_eq (tgt := 118) hx hb d_R_onHull_107 rfl (by omega) (by omega) (fun h107 => ?_) (fun h107 => ?_)
    · refine lv_iconst (v := nI 0) hx hb d_R_onHull_118 (by decide) ?_
      exact W.zret hx hb hr rfl (fun tS ht hW => ⟨_, rfl, (ec_isB.f0 (fun q => q.1 h107)), ht⟩) (fun _ h => nomatch h) d_R_onHull_119
    · refine lv_iload_n hx hb d_R_onHull_110 rfl (lv_at hl 3 rfl) ?_
      refine ec_if_eq (tgt := 118) hx hb d_R_onHull_111 rfl (by omega) (fun h111 => ?_) (fun h111 => ?_)
      · refine lv_iconst (v := nI 0) hx hb d_R_onHull_118 (by decide) ?_
        exact W.zret hx hb hr rfl (fun tS ht hW => ⟨_, rfl, (ec_isB.f0 (ec_hul_f hI2 h11 h111)), ht⟩) (fun _ h => nomatch h) d_R_onHull_119
      · refine lv_iconst (v := nI 1) hx hb d_R_onHull_114 (by decide) ?_
        refine lv_goto (tgt := 119) hx hb d_R_onHull_115 rfl ?_
        exact W.zret hx hb hr rfl (fun tS ht hW => ⟨_, rfl, (ec_isB.t1 (ec_hul_t hI hI2 h11 hle h107 h111)), ht⟩) (fun _ h => nomatch h) d_R_onHull_119
  · refine lv_aload_n hx hb d_R_onHull_14 rfl (lv_at hl 0 rfl) ?_
    refine lv_iload_n hx hb d_R_onHull_15 rfl (lv_at hl 1 rfl) ?_
    refine lv_iload_n hx hb d_R_onHull_16 rfl (lv_at hl 2 rfl) ?_
    refine lv_iload hx hb d_R_onHull_17 (lv_at hl 4 rfl) ?_
    refine ec_vSl (C := "ExactMeshModel") (ci := 5) (q := (R_R, T_R, 18)) (q0 := 0) (As := [.int (nI i), .int (nI j), .int (nI t)]) (rest := []) ⟨hx, hb, hml, hown, htb⟩ (c_R_of l dC dI a cI cZ cJ rn rx ry rl rf rt rh gx gy rc w1 w2 w3 rg rk kc kf kp rest i j t g12 gN (by omega) (by omega) (by omega)) kv_R_of hK hP rfl rfl rfl wd_541 ⟨Nat.le_of_ble_eq_true rfl, Nat.le_of_ble_eq_true rfl⟩ ⟨rfl, rfl⟩ rfl hl.1 rfl (Nat.le_of_ble_eq_true rfl) d_R_onHull_19 ⟨Nat.zero_le _, Nat.zero_le _⟩ (fun r19 hr19 => ?_)
    replace hr19 : r19.toInt = ge_ori (ec_P rx ry i) (ec_P rx ry j) (ec_P rx ry t) := hr19
    refine lv_lstore hx hb d_R_onHull_22 hl (by decide) rfl (fun ls hl => ?_)
    replace hl : lv_has ls 8 [(5, .long r19), (0, .ref (a 0)), (1, .int (nI i)), (2, .int (nI j)), (3, .int (nI f)), (4, .int (nI t))] := hl
    refine lv_iload hx hb d_R_onHull_24 (lv_at hl 5 rfl) ?_
    refine lv_iload_n hx hb d_R_onHull_26 rfl (lv_at hl 2 rfl) ?_
    refine ec_icmp_eq (tgt := 65) hx hb d_R_onHull_27 rfl (by omega) (by omega) (fun h27 => ?_) (fun h27 => ?_)
    · refine lv_iconst (v := nI 0) hx hb d_R_onHull_65 (by decide) ?_
      refine lv_istore hx hb d_R_onHull_66 hl (by decide) rfl (fun ls hl => ?_)
      replace hl : lv_has ls 8 [(7, .int (nI 0)), (5, .long r19), (0, .ref (a 0)), (1, .int (nI i)), (2, .int (nI j)), (3, .int (nI f)), (4, .int (nI t))] := hl
      refine lv_lload hx hb d_R_onHull_68 (lv_at hl 1 rfl) ?_
      refine lv_lconst (v := 0) hx hb d_R_onHull_70 (by decide) ?_
      refine W.lcmp hx hb d_R_onHull_71 ?_
      refine lv_if_lt (tgt := 80) hx hb d_R_onHull_72 rfl (fun h72 => ?_) (fun h72 => ?_)
      · rw [lg_cmp_lt] at h72
        refine lv_iconst (v := nI 0) hx hb d_R_onHull_80 (by decide) ?_
        exact W.zret hx hb hr rfl (fun tS ht hW => ⟨_, rfl, (ec_isB.f0 (fun q => ec_lt0' hr19 h72 (q.2.1 t h11))), ht⟩) (fun _ h => nomatch h) d_R_onHull_81
      · rw [lg_cmp_lt] at h72
        refine lv_iload hx hb d_R_onHull_75 (lv_at hl 0 rfl) ?_
        refine ec_if_eq (tgt := 82) hx hb d_R_onHull_77 rfl (by omega) (fun h77 => ?_) (fun h77 => ?_)
        · refine lv_iload_n hx hb d_R_onHull_82 rfl (lv_at hl 5 rfl) ?_
          refine ec_if_ne (tgt := 93) hx hb d_R_onHull_83 rfl (by omega) (fun h83 => ?_) (fun h83 => ?_)
          · refine lv_iconst (v := nI 1) hx hb d_R_onHull_93 (by decide) ?_
            refine lv_goto (tgt := 98) hx hb d_R_onHull_94 rfl ?_
            refine lv_istore_n hx hb d_R_onHull_98 rfl hl (by decide) rfl (fun ls hl => ?_)
            replace hl : lv_has ls 8 [(3, .int (nI 1)), (7, .int (nI 0)), (5, .long r19), (0, .ref (a 0)), (1, .int (nI i)), (2, .int (nI j)), (4, .int (nI t))] := hl
            refine ec_iinc (k := 6) hx hb d_R_onHull_99 hl rfl (by decide) rfl (fun ls hl => ?_)
            replace hl : lv_has ls 8 [(4, .int (nI (t + 1))), (3, .int (nI 1)), (7, .int (nI 0)), (5, .long r19), (0, .ref (a 0)), (1, .int (nI i)), (2, .int (nI j))] := hl
            refine lv_goto (tgt := 5) hx hb d_R_onHull_102 rfl ?_
            exact ih5 _ (by omega) (t := t + 1) (f := 1) (ls := ls) (hl := lv_sub hl [4, 5, 6, 1, 0] rfl) (hle := (by omega)) (hf := (by omega)) (hI := (lt_s hI ⟨ec_ge0' hr19 h72, fun z _ => absurd h27 z⟩)) (hI2 := (ec_hu2_1 hI2 (Or.inl h83))) (hk5 := rfl)
          · refine lv_lload hx hb d_R_onHull_86 (lv_at hl 1 rfl) ?_
            refine lv_lconst (v := 0) hx hb d_R_onHull_88 (by decide) ?_
            refine W.lcmp hx hb d_R_onHull_89 ?_
            refine lv_if_le (tgt := 97) hx hb d_R_onHull_90 rfl (fun h90 => ?_) (fun h90 => ?_)
            · rw [lg_cmp_le] at h90
              refine lv_iconst (v := nI 0) hx hb d_R_onHull_97 (by decide) ?_
              refine lv_istore_n hx hb d_R_onHull_98 rfl hl (by decide) rfl (fun ls hl => ?_)
              replace hl : lv_has ls 8 [(3, .int (nI 0)), (7, .int (nI 0)), (5, .long r19), (0, .ref (a 0)), (1, .int (nI i)), (2, .int (nI j)), (4, .int (nI t))] := hl
              refine ec_iinc (k := 6) hx hb d_R_onHull_99 hl rfl (by decide) rfl (fun ls hl => ?_)
              replace hl : lv_has ls 8 [(4, .int (nI (t + 1))), (3, .int (nI 0)), (7, .int (nI 0)), (5, .long r19), (0, .ref (a 0)), (1, .int (nI i)), (2, .int (nI j))] := hl
              refine lv_goto (tgt := 5) hx hb d_R_onHull_102 rfl ?_
              exact ih5 _ (by omega) (t := t + 1) (f := 0) (ls := ls) (hl := lv_sub hl [4, 5, 6, 1, 0] rfl) (hle := (by omega)) (hf := (by omega)) (hI := (lt_s hI ⟨ec_ge0' hr19 h72, fun z _ => absurd h27 z⟩)) (hI2 := (ec_hu2_0 hI2 h83 (ec_le0 hr19 h90))) (hk5 := rfl)
            · rw [lg_cmp_le] at h90
              refine lv_iconst (v := nI 1) hx hb d_R_onHull_93 (by decide) ?_
              refine lv_goto (tgt := 98) hx hb d_R_onHull_94 rfl ?_
              refine lv_istore_n hx hb d_R_onHull_98 rfl hl (by decide) rfl (fun ls hl => ?_)
              replace hl : lv_has ls 8 [(3, .int (nI 1)), (7, .int (nI 0)), (5, .long r19), (0, .ref (a 0)), (1, .int (nI i)), (2, .int (nI j)), (4, .int (nI t))] := hl
              refine ec_iinc (k := 6) hx hb d_R_onHull_99 hl rfl (by decide) rfl (fun ls hl => ?_)
              replace hl : lv_has ls 8 [(4, .int (nI (t + 1))), (3, .int (nI 1)), (7, .int (nI 0)), (5, .long r19), (0, .ref (a 0)), (1, .int (nI i)), (2, .int (nI j))] := hl
              refine lv_goto (tgt := 5) hx hb d_R_onHull_102 rfl ?_
              exact ih5 _ (by omega) (t := t + 1) (f := 1) (ls := ls) (hl := lv_sub hl [4, 5, 6, 1, 0] rfl) (hle := (by omega)) (hf := (by omega)) (hI := (lt_s hI ⟨ec_ge0' hr19 h72, fun z _ => absurd h27 z⟩)) (hI2 := (ec_hu2_1 hI2 (Or.inr (ec_gt0 hr19 h90)))) (hk5 := rfl)
        · exact absurd h77 (by decide)
    · refine lv_iload hx hb d_R_onHull_30 (lv_at hl 5 rfl) ?_
      refine lv_iload_n hx hb d_R_onHull_32 rfl (lv_at hl 3 rfl) ?_
      refine ec_icmp_eq (tgt := 65) hx hb d_R_onHull_33 rfl (by omega) (by omega) (fun h33 => ?_) (fun h33 => ?_)
      · refine lv_iconst (v := nI 0) hx hb d_R_onHull_65 (by decide) ?_
        refine lv_istore hx hb d_R_onHull_66 hl (by decide) rfl (fun ls hl => ?_)
        replace hl : lv_has ls 8 [(7, .int (nI 0)), (5, .long r19), (0, .ref (a 0)), (1, .int (nI i)), (2, .int (nI j)), (3, .int (nI f)), (4, .int (nI t))] := hl
        refine lv_lload hx hb d_R_onHull_68 (lv_at hl 1 rfl) ?_
        refine lv_lconst (v := 0) hx hb d_R_onHull_70 (by decide) ?_
        refine W.lcmp hx hb d_R_onHull_71 ?_
        refine lv_if_lt (tgt := 80) hx hb d_R_onHull_72 rfl (fun h72_1 => ?_) (fun h72_1 => ?_)
        · rw [lg_cmp_lt] at h72_1
          refine lv_iconst (v := nI 0) hx hb d_R_onHull_80 (by decide) ?_
          exact W.zret hx hb hr rfl (fun tS ht hW => ⟨_, rfl, (ec_isB.f0 (fun q => ec_lt0' hr19 h72_1 (q.2.1 t h11))), ht⟩) (fun _ h => nomatch h) d_R_onHull_81
        · rw [lg_cmp_lt] at h72_1
          refine lv_iload hx hb d_R_onHull_75 (lv_at hl 0 rfl) ?_
          refine ec_if_eq (tgt := 82) hx hb d_R_onHull_77 rfl (by omega) (fun h77_1 => ?_) (fun h77_1 => ?_)
          · refine lv_iload_n hx hb d_R_onHull_82 rfl (lv_at hl 5 rfl) ?_
            refine ec_if_ne (tgt := 93) hx hb d_R_onHull_83 rfl (by omega) (fun h83_1 => ?_) (fun h83_1 => ?_)
            · refine lv_iconst (v := nI 1) hx hb d_R_onHull_93 (by decide) ?_
              refine lv_goto (tgt := 98) hx hb d_R_onHull_94 rfl ?_
              refine lv_istore_n hx hb d_R_onHull_98 rfl hl (by decide) rfl (fun ls hl => ?_)
              replace hl : lv_has ls 8 [(3, .int (nI 1)), (7, .int (nI 0)), (5, .long r19), (0, .ref (a 0)), (1, .int (nI i)), (2, .int (nI j)), (4, .int (nI t))] := hl
              refine ec_iinc (k := 6) hx hb d_R_onHull_99 hl rfl (by decide) rfl (fun ls hl => ?_)
              replace hl : lv_has ls 8 [(4, .int (nI (t + 1))), (3, .int (nI 1)), (7, .int (nI 0)), (5, .long r19), (0, .ref (a 0)), (1, .int (nI i)), (2, .int (nI j))] := hl
              refine lv_goto (tgt := 5) hx hb d_R_onHull_102 rfl ?_
              exact ih5 _ (by omega) (t := t + 1) (f := 1) (ls := ls) (hl := lv_sub hl [4, 5, 6, 1, 0] rfl) (hle := (by omega)) (hf := (by omega)) (hI := (lt_s hI ⟨ec_ge0' hr19 h72_1, fun _ z => absurd h33 z⟩)) (hI2 := (ec_hu2_1 hI2 (Or.inl h83_1))) (hk5 := rfl)
            · refine lv_lload hx hb d_R_onHull_86 (lv_at hl 1 rfl) ?_
              refine lv_lconst (v := 0) hx hb d_R_onHull_88 (by decide) ?_
              refine W.lcmp hx hb d_R_onHull_89 ?_
              refine lv_if_le (tgt := 97) hx hb d_R_onHull_90 rfl (fun h90_1 => ?_) (fun h90_1 => ?_)
              · rw [lg_cmp_le] at h90_1
                refine lv_iconst (v := nI 0) hx hb d_R_onHull_97 (by decide) ?_
                refine lv_istore_n hx hb d_R_onHull_98 rfl hl (by decide) rfl (fun ls hl => ?_)
                replace hl : lv_has ls 8 [(3, .int (nI 0)), (7, .int (nI 0)), (5, .long r19), (0, .ref (a 0)), (1, .int (nI i)), (2, .int (nI j)), (4, .int (nI t))] := hl
                refine ec_iinc (k := 6) hx hb d_R_onHull_99 hl rfl (by decide) rfl (fun ls hl => ?_)
                replace hl : lv_has ls 8 [(4, .int (nI (t + 1))), (3, .int (nI 0)), (7, .int (nI 0)), (5, .long r19), (0, .ref (a 0)), (1, .int (nI i)), (2, .int (nI j))] := hl
                refine lv_goto (tgt := 5) hx hb d_R_onHull_102 rfl ?_
                exact ih5 _ (by omega) (t := t + 1) (f := 0) (ls := ls) (hl := lv_sub hl [4, 5, 6, 1, 0] rfl) (hle := (by omega)) (hf := (by omega)) (hI := (lt_s hI ⟨ec_ge0' hr19 h72_1, fun _ z => absurd h33 z⟩)) (hI2 := (ec_hu2_0 hI2 h83_1 (ec_le0 hr19 h90_1))) (hk5 := rfl)
              · rw [lg_cmp_le] at h90_1
                refine lv_iconst (v := nI 1) hx hb d_R_onHull_93 (by decide) ?_
                refine lv_goto (tgt := 98) hx hb d_R_onHull_94 rfl ?_
                refine lv_istore_n hx hb d_R_onHull_98 rfl hl (by decide) rfl (fun ls hl => ?_)
                replace hl : lv_has ls 8 [(3, .int (nI 1)), (7, .int (nI 0)), (5, .long r19), (0, .ref (a 0)), (1, .int (nI i)), (2, .int (nI j)), (4, .int (nI t))] := hl
                refine ec_iinc (k := 6) hx hb d_R_onHull_99 hl rfl (by decide) rfl (fun ls hl => ?_)
                replace hl : lv_has ls 8 [(4, .int (nI (t + 1))), (3, .int (nI 1)), (7, .int (nI 0)), (5, .long r19), (0, .ref (a 0)), (1, .int (nI i)), (2, .int (nI j))] := hl
                refine lv_goto (tgt := 5) hx hb d_R_onHull_102 rfl ?_
                exact ih5 _ (by omega) (t := t + 1) (f := 1) (ls := ls) (hl := lv_sub hl [4, 5, 6, 1, 0] rfl) (hle := (by omega)) (hf := (by omega)) (hI := (lt_s hI ⟨ec_ge0' hr19 h72_1, fun _ z => absurd h33 z⟩)) (hI2 := (ec_hu2_1 hI2 (Or.inr (ec_gt0 hr19 h90_1)))) (hk5 := rfl)
          · exact absurd h77_1 (by decide)
      · refine lv_aload_n hx hb d_R_onHull_36 rfl (lv_at hl 1 rfl) ?_
        refine lv_iload_n hx hb d_R_onHull_37 rfl (lv_at hl 2 rfl) ?_
        refine lv_iload_n hx hb d_R_onHull_38 rfl (lv_at hl 3 rfl) ?_
        refine lv_aload_n hx hb d_R_onHull_39 rfl (lv_at hl 1 rfl) ?_
        refine va_get (D := (dC, dI)) (ci := 5) (v := .ref (a 1)) (C := R_R) (T := T_R) (N := 18) hx hb htb in_R hown hK hP 0 rfl rfl 1 (by decide) (htb _ wd_450) (fun _ h9 => h9) rfl d_R_onHull_40 ?_
        refine lv_iload hx hb d_R_onHull_43 (lv_at hl 5 rfl) ?_
        refine ec_iald (f := rx) (i := t) hx hb hK hP 1 0 rfl rfl (by omega) (by decide) d_R_onHull_45 ?_
        refine lv_i2l hx hb d_R_onHull_46 rfl ?_
        refine lv_aload_n hx hb d_R_onHull_47 rfl (lv_at hl 1 rfl) ?_
        refine va_get (D := (dC, dI)) (ci := 5) (v := .ref (a 2)) (C := R_R) (T := T_R) (N := 18) hx hb htb in_R hown hK hP 0 rfl rfl 2 (by decide) (htb _ wd_451) (fun _ h9 => h9) rfl d_R_onHull_48 ?_
        refine lv_iload hx hb d_R_onHull_51 (lv_at hl 5 rfl) ?_
        refine ec_iald (f := ry) (i := t) hx hb hK hP 2 0 rfl rfl (by omega) (by decide) d_R_onHull_53 ?_
        refine lv_i2l hx hb d_R_onHull_54 rfl ?_
        refine ec_vSi (C := "ExactMeshModel") (ci := 5) (q := (R_R, T_R, 18)) (q0 := 0) (As := [.int (nI i), .int (nI j), .long ((rx t).toInt64), .long ((ry t).toInt64)]) (rest := []) ⟨hx, hb, hml, hown, htb⟩ (c_R_on l dC dI a cI cZ cJ rn rx ry rl rf rt rh gx gy rc w1 w2 w3 rg rk kc kf kp rest i j (rx t) (ry t) g12 gN (by omega) (by omega) (gN t h11).1 (gN t h11).2) kv_R_on hK hP rfl rfl rfl wd_514 ⟨Nat.le_of_ble_eq_true rfl, Nat.le_of_ble_eq_true rfl⟩ ⟨rfl, rfl⟩ rfl hl.1 rfl (Nat.le_of_ble_eq_true rfl) d_R_onHull_55 ⟨Nat.zero_le _, Nat.zero_le _⟩ (fun r55 hr55 => ?_)
        replace hr55 : ec_isB r55 (ec_on (rx i).toInt (ry i).toInt (rx j).toInt (ry j).toInt (rx t).toInt (ry t).toInt) := hr55
        refine ec_if_eqB (tgt := 65) hx hb hr55 d_R_onHull_58 rfl (fun h58 => ?_) (fun h58 => ?_)
        · refine lv_iconst (v := nI 0) hx hb d_R_onHull_65 (by decide) ?_
          refine lv_istore hx hb d_R_onHull_66 hl (by decide) rfl (fun ls hl => ?_)
          replace hl : lv_has ls 8 [(7, .int (nI 0)), (5, .long r19), (0, .ref (a 0)), (1, .int (nI i)), (2, .int (nI j)), (3, .int (nI f)), (4, .int (nI t))] := hl
          refine lv_lload hx hb d_R_onHull_68 (lv_at hl 1 rfl) ?_
          refine lv_lconst (v := 0) hx hb d_R_onHull_70 (by decide) ?_
          refine W.lcmp hx hb d_R_onHull_71 ?_
          refine lv_if_lt (tgt := 80) hx hb d_R_onHull_72 rfl (fun h72_2 => ?_) (fun h72_2 => ?_)
          · rw [lg_cmp_lt] at h72_2
            refine lv_iconst (v := nI 0) hx hb d_R_onHull_80 (by decide) ?_
            exact W.zret hx hb hr rfl (fun tS ht hW => ⟨_, rfl, (ec_isB.f0 (fun q => ec_lt0' hr19 h72_2 (q.2.1 t h11))), ht⟩) (fun _ h => nomatch h) d_R_onHull_81
          · rw [lg_cmp_lt] at h72_2
            refine lv_iload hx hb d_R_onHull_75 (lv_at hl 0 rfl) ?_
            refine ec_if_eq (tgt := 82) hx hb d_R_onHull_77 rfl (by omega) (fun h77_2 => ?_) (fun h77_2 => ?_)
            · refine lv_iload_n hx hb d_R_onHull_82 rfl (lv_at hl 5 rfl) ?_
              refine ec_if_ne (tgt := 93) hx hb d_R_onHull_83 rfl (by omega) (fun h83_2 => ?_) (fun h83_2 => ?_)
              · refine lv_iconst (v := nI 1) hx hb d_R_onHull_93 (by decide) ?_
                refine lv_goto (tgt := 98) hx hb d_R_onHull_94 rfl ?_
                refine lv_istore_n hx hb d_R_onHull_98 rfl hl (by decide) rfl (fun ls hl => ?_)
                replace hl : lv_has ls 8 [(3, .int (nI 1)), (7, .int (nI 0)), (5, .long r19), (0, .ref (a 0)), (1, .int (nI i)), (2, .int (nI j)), (4, .int (nI t))] := hl
                refine ec_iinc (k := 6) hx hb d_R_onHull_99 hl rfl (by decide) rfl (fun ls hl => ?_)
                replace hl : lv_has ls 8 [(4, .int (nI (t + 1))), (3, .int (nI 1)), (7, .int (nI 0)), (5, .long r19), (0, .ref (a 0)), (1, .int (nI i)), (2, .int (nI j))] := hl
                refine lv_goto (tgt := 5) hx hb d_R_onHull_102 rfl ?_
                exact ih5 _ (by omega) (t := t + 1) (f := 1) (ls := ls) (hl := lv_sub hl [4, 5, 6, 1, 0] rfl) (hle := (by omega)) (hf := (by omega)) (hI := (lt_s hI ⟨ec_ge0' hr19 h72_2, fun _ _ => h58⟩)) (hI2 := (ec_hu2_1 hI2 (Or.inl h83_2))) (hk5 := rfl)
              · refine lv_lload hx hb d_R_onHull_86 (lv_at hl 1 rfl) ?_
                refine lv_lconst (v := 0) hx hb d_R_onHull_88 (by decide) ?_
                refine W.lcmp hx hb d_R_onHull_89 ?_
                refine lv_if_le (tgt := 97) hx hb d_R_onHull_90 rfl (fun h90_2 => ?_) (fun h90_2 => ?_)
                · rw [lg_cmp_le] at h90_2
                  refine lv_iconst (v := nI 0) hx hb d_R_onHull_97 (by decide) ?_
                  refine lv_istore_n hx hb d_R_onHull_98 rfl hl (by decide) rfl (fun ls hl => ?_)
                  replace hl : lv_has ls 8 [(3, .int (nI 0)), (7, .int (nI 0)), (5, .long r19), (0, .ref (a 0)), (1, .int (nI i)), (2, .int (nI j)), (4, .int (nI t))] := hl
                  refine ec_iinc (k := 6) hx hb d_R_onHull_99 hl rfl (by decide) rfl (fun ls hl => ?_)
                  replace hl : lv_has ls 8 [(4, .int (nI (t + 1))), (3, .int (nI 0)), (7, .int (nI 0)), (5, .long r19), (0, .ref (a 0)), (1, .int (nI i)), (2, .int (nI j))] := hl
                  refine lv_goto (tgt := 5) hx hb d_R_onHull_102 rfl ?_
                  exact ih5 _ (by omega) (t := t + 1) (f := 0) (ls := ls) (hl := lv_sub hl [4, 5, 6, 1, 0] rfl) (hle := (by omega)) (hf := (by omega)) (hI := (lt_s hI ⟨ec_ge0' hr19 h72_2, fun _ _ => h58⟩)) (hI2 := (ec_hu2_0 hI2 h83_2 (ec_le0 hr19 h90_2))) (hk5 := rfl)
                · rw [lg_cmp_le] at h90_2
                  refine lv_iconst (v := nI 1) hx hb d_R_onHull_93 (by decide) ?_
                  refine lv_goto (tgt := 98) hx hb d_R_onHull_94 rfl ?_
                  refine lv_istore_n hx hb d_R_onHull_98 rfl hl (by decide) rfl (fun ls hl => ?_)
                  replace hl : lv_has ls 8 [(3, .int (nI 1)), (7, .int (nI 0)), (5, .long r19), (0, .ref (a 0)), (1, .int (nI i)), (2, .int (nI j)), (4, .int (nI t))] := hl
                  refine ec_iinc (k := 6) hx hb d_R_onHull_99 hl rfl (by decide) rfl (fun ls hl => ?_)
                  replace hl : lv_has ls 8 [(4, .int (nI (t + 1))), (3, .int (nI 1)), (7, .int (nI 0)), (5, .long r19), (0, .ref (a 0)), (1, .int (nI i)), (2, .int (nI j))] := hl
                  refine lv_goto (tgt := 5) hx hb d_R_onHull_102 rfl ?_
                  exact ih5 _ (by omega) (t := t + 1) (f := 1) (ls := ls) (hl := lv_sub hl [4, 5, 6, 1, 0] rfl) (hle := (by omega)) (hf := (by omega)) (hI := (lt_s hI ⟨ec_ge0' hr19 h72_2, fun _ _ => h58⟩)) (hI2 := (ec_hu2_1 hI2 (Or.inr (ec_gt0 hr19 h90_2)))) (hk5 := rfl)
            · exact absurd h77_2 (by decide)
        · refine lv_iconst (v := nI 1) hx hb d_R_onHull_61 (by decide) ?_
          refine lv_goto (tgt := 66) hx hb d_R_onHull_62 rfl ?_
          refine lv_istore hx hb d_R_onHull_66 hl (by decide) rfl (fun ls hl => ?_)
          replace hl : lv_has ls 8 [(7, .int (nI 1)), (5, .long r19), (0, .ref (a 0)), (1, .int (nI i)), (2, .int (nI j)), (3, .int (nI f)), (4, .int (nI t))] := hl
          refine lv_lload hx hb d_R_onHull_68 (lv_at hl 1 rfl) ?_
          refine lv_lconst (v := 0) hx hb d_R_onHull_70 (by decide) ?_
          refine W.lcmp hx hb d_R_onHull_71 ?_
          refine lv_if_lt (tgt := 80) hx hb d_R_onHull_72 rfl (fun h72_3 => ?_) (fun h72_3 => ?_)
          · rw [lg_cmp_lt] at h72_3
            refine lv_iconst (v := nI 0) hx hb d_R_onHull_80 (by decide) ?_
            exact W.zret hx hb hr rfl (fun tS ht hW => ⟨_, rfl, (ec_isB.f0 (fun q => ec_lt0' hr19 h72_3 (q.2.1 t h11))), ht⟩) (fun _ h => nomatch h) d_R_onHull_81
          · rw [lg_cmp_lt] at h72_3
            refine lv_iload hx hb d_R_onHull_75 (lv_at hl 0 rfl) ?_
            refine ec_if_eq (tgt := 82) hx hb d_R_onHull_77 rfl (by omega) (fun h77_3 => ?_) (fun h77_3 => ?_)
            · exact absurd h77_3 (by decide)
            · refine lv_iconst (v := nI 0) hx hb d_R_onHull_80 (by decide) ?_
              exact W.zret hx hb hr rfl (fun tS ht hW => ⟨_, rfl, (ec_isB.f0 (fun q => q.2.2.1 t h11 h27 h33 h58)), ht⟩) (fun _ h => nomatch h) d_R_onHull_81

set_option maxRecDepth 100000 in
set_option maxHeartbeats 4000000 in
theorem c_R_leftOf (l : Launch) (dC : Nat → ClassId) (dI : Nat → Nat → Nat) (a : Nat → Nat) (cI cZ cJ : ClassId) (rn : Nat) (rx : Nat → Int32) (ry : Nat → Int32) (rl : Nat) (rf : Nat → Nat) (rt : Nat → Nat) (rh : Nat) (gx : Nat → Int32) (gy : Nat → Int32) (rc : Nat) (w1 : Nat → Nat) (w2 : Nat → Nat) (w3 : Nat → Nat) (rg : Nat → Prop) (rk : Nat) (kc : Nat → Nat) (kf : Nat → Prop) (kp : Nat → Int64) (rest : va_W) (i : Nat) (j : Nat) (g12 : rn ≤ 12) (gw : ∀ t, t < rc → w1 t < rn ∧ w2 t < rn ∧ w3 t < rn) (grc : rc ≤ 24) (hi : i < rn) (hj : j < rn) : Met l y_R_leftOf (Cond.code y_R_leftOf b_R_leftOf 6 (some .int) :: ec_tbl) ({ frames := 0, cells := 0, slots := 0, locals := 0 }) (va_Pc [.ref (a 0), .int (nI i), .int (nI j)] (fun U => va_P (dC, dI) vwCl (wR a cI cZ cJ rn rx ry rl rf rt rh gx gy rc w1 w2 w3 rg rk kc kf kp ++ rest) U.heap ∧ va_K (dC, dI) vwCl (ec_tys cI cZ cJ) U)) (vp_Si (fun r : Int32 => ∃ o, r = ec_oi o ∧ ec_lfo rc w1 w2 w3 i j o)) 0 0 (fun _ => False) := by
  refine Met.ofW (cc := b_R_leftOf) (maxL := 6) (ret := (some .int)) (by decide) rfl ?_
  intro p e s m args below meth c s₁ B hml hv0
  obtain ⟨rfl, hP, hK⟩ := hv0
  have hx := B.exec
  have hb := B.bytes
  have hr := B.returns
  have hts := atoms_spec (ws := (Cond.code y_R_leftOf b_R_leftOf 6 (some .int) :: ec_tbl)) B.pre
  have htb : ∀ w ∈ ec_tbl, w.before _ s = true := fun w h => hts w (List.mem_cons_of_mem _ h)
  clear hts
  have hown : s.vm.findClass "ExactMeshModel" = some m.cls := findClass_of_methodNamed B.named
  have hlocks := B.notSynchronized
  have hl := lv_entry ([.ref (a 0), .int (nI i), .int (nI j)]) (n := 6) (Nat.le_of_ble_eq_true rfl)
  rw [lg_entry_eq]
  generalize (lg_sl ([.ref (a 0), .int (nI i), .int (nI j)]) ++ List.replicate (6 - (lg_sl ([.ref (a 0), .int (nI i), .int (nI j)])).length) Slot.unset).toArray = ls at hl ⊢
  replace hl : lv_has ls 6 [(0, .ref (a 0)), (1, .int (nI i)), (2, .int (nI j))] := hl
  refine lv_iconst (v := -1) hx hb d_R_leftOf_0 (by decide) ?_
  refine lv_istore_n hx hb d_R_leftOf_1 rfl hl (by decide) rfl (fun ls hl => ?_)
  replace hl : lv_has ls 6 [(3, .int (-1)), (0, .ref (a 0)), (1, .int (nI i)), (2, .int (nI j))] := hl
  refine lv_iconst (v := nI 0) hx hb d_R_leftOf_2 (by decide) ?_
  refine lv_istore hx hb d_R_leftOf_3 hl (by decide) rfl (fun ls hl => ?_)
  replace hl : lv_has ls 6 [(4, .int (nI 0)), (3, .int (-1)), (0, .ref (a 0)), (1, .int (nI i)), (2, .int (nI j))] := hl
  obtain ⟨t, e_t⟩ : ∃ z : Nat, z = 0 := ⟨_, rfl⟩
  obtain ⟨o, e_o⟩ : ∃ z : Option Nat, z = none := ⟨_, rfl⟩
  replace hl : lv_has ls 6 [(0, .ref (a 0)), (1, .int (nI i)), (2, .int (nI j)), (3, .int (ec_oi o)), (4, .int (nI t))] := by (try simp only [e_t, e_o]); exact lv_sub hl [2, 3, 4, 1, 0] rfl
  have hle : t ≤ rc := by omega
  have hI : ec_lfo t w1 w2 w3 i j o := by simp only [e_t, e_o]; exact ec_lfo_0
  clear e_o e_t
  generalize hk5 : rc - t = k5
  induction k5 using Nat.strongRecOn generalizing t o ls with
  | ind k5 ih5 =>
  refine lv_iload hx hb d_R_leftOf_5 (lv_at hl 4 rfl) ?_
  refine lv_aload_n hx hb d_R_leftOf_7 rfl (lv_at hl 0 rfl) ?_
  refine va_get (D := (dC, dI)) (ci := 5) (v := .int (nI rc)) (C := R_R) (T := T_R) (N := 18) hx hb htb in_R hown hK hP 0 rfl rfl 9 (by decide) (htb _ wd_458) (fun _ h9 => h9) rfl d_R_leftOf_8 ?_
  refine ec_icmp_ge (tgt := 105) hx hb d_R_leftOf_11 rfl (by omega) (by omega) (fun h11 => ?_) (fun h11 => ?_)
  · refine lv_iload_n hx hb d_R_leftOf_105 rfl (lv_at hl 3 rfl) ?_
    exact W.iret hx hb hr (fun tS ht hW => ⟨_, rfl, ⟨o, rfl, ec_lfo_c hI (by omega)⟩, ht⟩) (fun _ h => nomatch h) d_R_leftOf_106
  · have q0 := gw t (by omega)
    refine lv_aload_n hx hb d_R_leftOf_14 rfl (lv_at hl 0 rfl) ?_
    refine va_get (D := (dC, dI)) (ci := 5) (v := .ref (a 7)) (C := R_R) (T := T_R) (N := 18) hx hb htb in_R hown hK hP 0 rfl rfl 10 (by decide) (htb _ wd_459) (fun _ h9 => h9) rfl d_R_leftOf_15 ?_
    refine lv_iload hx hb d_R_leftOf_18 (lv_at hl 4 rfl) ?_
    refine ec_ialdN (f := w1) (i := t) hx hb hK hP 7 0 rfl rfl (by omega) (by decide) d_R_leftOf_20 ?_
    refine lv_iload_n hx hb d_R_leftOf_21 rfl (lv_at hl 1 rfl) ?_
    refine ec_icmp_ne (tgt := 36) hx hb d_R_leftOf_22 rfl (by omega) (by omega) (fun h22 => ?_) (fun h22 => ?_)
    · refine lv_aload_n hx hb d_R_leftOf_36 rfl (lv_at hl 0 rfl) ?_
      refine va_get (D := (dC, dI)) (ci := 5) (v := .ref (a 8)) (C := R_R) (T := T_R) (N := 18) hx hb htb in_R hown hK hP 0 rfl rfl 11 (by decide) (htb _ wd_460) (fun _ h9 => h9) rfl d_R_leftOf_37 ?_
      refine lv_iload hx hb d_R_leftOf_40 (lv_at hl 4 rfl) ?_
      refine ec_ialdN (f := w2) (i := t) hx hb hK hP 8 0 rfl rfl (by omega) (by decide) d_R_leftOf_42 ?_
      refine lv_iload_n hx hb d_R_leftOf_43 rfl (lv_at hl 1 rfl) ?_
      refine ec_icmp_ne (tgt := 58) hx hb d_R_leftOf_44 rfl (by omega) (by omega) (fun h44 => ?_) (fun h44 => ?_)
      · refine lv_aload_n hx hb d_R_leftOf_58 rfl (lv_at hl 0 rfl) ?_
        refine va_get (D := (dC, dI)) (ci := 5) (v := .ref (a 9)) (C := R_R) (T := T_R) (N := 18) hx hb htb in_R hown hK hP 0 rfl rfl 12 (by decide) (htb _ wd_461) (fun _ h9 => h9) rfl d_R_leftOf_59 ?_
        refine lv_iload hx hb d_R_leftOf_62 (lv_at hl 4 rfl) ?_
        refine ec_ialdN (f := w3) (i := t) hx hb hK hP 9 0 rfl rfl (by omega) (by decide) d_R_leftOf_64 ?_
        refine lv_iload_n hx hb d_R_leftOf_65 rfl (lv_at hl 1 rfl) ?_
        refine ec_icmp_ne (tgt := 84) hx hb d_R_leftOf_66 rfl (by omega) (by omega) (fun h66 => ?_) (fun h66 => ?_)
        · refine lv_iconst (v := nI 0) hx hb d_R_leftOf_84 (by decide) ?_
          refine lv_istore hx hb d_R_leftOf_85 hl (by decide) rfl (fun ls hl => ?_)
          replace hl : lv_has ls 6 [(5, .int (nI 0)), (0, .ref (a 0)), (1, .int (nI i)), (2, .int (nI j)), (3, .int (ec_oi o)), (4, .int (nI t))] := hl
          refine lv_iload hx hb d_R_leftOf_87 (lv_at hl 0 rfl) ?_
          refine ec_if_eq (tgt := 97) hx hb d_R_leftOf_89 rfl (by omega) (fun h89 => ?_) (fun h89 => ?_)
          · refine lv_iload_n hx hb d_R_leftOf_97 rfl (lv_at hl 4 rfl) ?_
            refine lv_istore_n hx hb d_R_leftOf_98 rfl hl (by decide) rfl (fun ls hl => ?_)
            replace hl : lv_has ls 6 [(3, .int (ec_oi o)), (5, .int (nI 0)), (0, .ref (a 0)), (1, .int (nI i)), (2, .int (nI j)), (4, .int (nI t))] := hl
            refine ec_iinc (k := 5) hx hb d_R_leftOf_99 hl rfl (by decide) rfl (fun ls hl => ?_)
            replace hl : lv_has ls 6 [(4, .int (nI (t + 1))), (3, .int (ec_oi o)), (5, .int (nI 0)), (0, .ref (a 0)), (1, .int (nI i)), (2, .int (nI j))] := hl
            refine lv_goto (tgt := 5) hx hb d_R_leftOf_102 rfl ?_
            exact ih5 _ (by omega) (t := t + 1) (o := o) (ls := ls) (hl := lv_sub hl [3, 4, 5, 1, 0] rfl) (hle := (by omega)) (hI := (ec_lfo_n hI (by unfold ec_sd; omega))) (hk5 := rfl)
          · exact absurd h89 (by decide)
        · refine lv_aload_n hx hb d_R_leftOf_69 rfl (lv_at hl 0 rfl) ?_
          refine va_get (D := (dC, dI)) (ci := 5) (v := .ref (a 7)) (C := R_R) (T := T_R) (N := 18) hx hb htb in_R hown hK hP 0 rfl rfl 10 (by decide) (htb _ wd_459) (fun _ h9 => h9) rfl d_R_leftOf_70 ?_
          refine lv_iload hx hb d_R_leftOf_73 (lv_at hl 4 rfl) ?_
          refine ec_ialdN (f := w1) (i := t) hx hb hK hP 7 0 rfl rfl (by omega) (by decide) d_R_leftOf_75 ?_
          refine lv_iload_n hx hb d_R_leftOf_76 rfl (lv_at hl 2 rfl) ?_
          refine ec_icmp_ne (tgt := 84) hx hb d_R_leftOf_77 rfl (by omega) (by omega) (fun h77 => ?_) (fun h77 => ?_)
          · refine lv_iconst (v := nI 0) hx hb d_R_leftOf_84 (by decide) ?_
            refine lv_istore hx hb d_R_leftOf_85 hl (by decide) rfl (fun ls hl => ?_)
            replace hl : lv_has ls 6 [(5, .int (nI 0)), (0, .ref (a 0)), (1, .int (nI i)), (2, .int (nI j)), (3, .int (ec_oi o)), (4, .int (nI t))] := hl
            refine lv_iload hx hb d_R_leftOf_87 (lv_at hl 0 rfl) ?_
            refine ec_if_eq (tgt := 97) hx hb d_R_leftOf_89 rfl (by omega) (fun h89_1 => ?_) (fun h89_1 => ?_)
            · refine lv_iload_n hx hb d_R_leftOf_97 rfl (lv_at hl 4 rfl) ?_
              refine lv_istore_n hx hb d_R_leftOf_98 rfl hl (by decide) rfl (fun ls hl => ?_)
              replace hl : lv_has ls 6 [(3, .int (ec_oi o)), (5, .int (nI 0)), (0, .ref (a 0)), (1, .int (nI i)), (2, .int (nI j)), (4, .int (nI t))] := hl
              refine ec_iinc (k := 5) hx hb d_R_leftOf_99 hl rfl (by decide) rfl (fun ls hl => ?_)
              replace hl : lv_has ls 6 [(4, .int (nI (t + 1))), (3, .int (ec_oi o)), (5, .int (nI 0)), (0, .ref (a 0)), (1, .int (nI i)), (2, .int (nI j))] := hl
              refine lv_goto (tgt := 5) hx hb d_R_leftOf_102 rfl ?_
              exact ih5 _ (by omega) (t := t + 1) (o := o) (ls := ls) (hl := lv_sub hl [3, 4, 5, 1, 0] rfl) (hle := (by omega)) (hI := (ec_lfo_n hI (by unfold ec_sd; omega))) (hk5 := rfl)
            · exact absurd h89_1 (by decide)
          · refine lv_iconst (v := nI 1) hx hb d_R_leftOf_80 (by decide) ?_
            refine lv_goto (tgt := 85) hx hb d_R_leftOf_81 rfl ?_
            refine lv_istore hx hb d_R_leftOf_85 hl (by decide) rfl (fun ls hl => ?_)
            replace hl : lv_has ls 6 [(5, .int (nI 1)), (0, .ref (a 0)), (1, .int (nI i)), (2, .int (nI j)), (3, .int (ec_oi o)), (4, .int (nI t))] := hl
            refine lv_iload hx hb d_R_leftOf_87 (lv_at hl 0 rfl) ?_
            refine ec_if_eq (tgt := 97) hx hb d_R_leftOf_89 rfl (by omega) (fun h89_2 => ?_) (fun h89_2 => ?_)
            · exact absurd h89_2 (by decide)
            · refine lv_iload hx hb d_R_leftOf_92 (lv_at hl 5 rfl) ?_
              refine lv_goto (tgt := 98) hx hb d_R_leftOf_94 rfl ?_
              refine lv_istore_n hx hb d_R_leftOf_98 rfl hl (by decide) rfl (fun ls hl => ?_)
              replace hl : lv_has ls 6 [(3, .int (nI t)), (5, .int (nI 1)), (0, .ref (a 0)), (1, .int (nI i)), (2, .int (nI j)), (4, .int (nI t))] := hl
              refine ec_iinc (k := 5) hx hb d_R_leftOf_99 hl rfl (by decide) rfl (fun ls hl => ?_)
              replace hl : lv_has ls 6 [(4, .int (nI (t + 1))), (3, .int (nI t)), (5, .int (nI 1)), (0, .ref (a 0)), (1, .int (nI i)), (2, .int (nI j))] := hl
              refine lv_goto (tgt := 5) hx hb d_R_leftOf_102 rfl ?_
              exact ih5 _ (by omega) (t := t + 1) (o := some t) (ls := ls) (hl := lv_sub hl [3, 4, 5, 1, 0] rfl) (hle := (by omega)) (hI := (ec_lfo_y (by unfold ec_sd; omega))) (hk5 := rfl)
      · refine lv_aload_n hx hb d_R_leftOf_47 rfl (lv_at hl 0 rfl) ?_
        refine va_get (D := (dC, dI)) (ci := 5) (v := .ref (a 9)) (C := R_R) (T := T_R) (N := 18) hx hb htb in_R hown hK hP 0 rfl rfl 12 (by decide) (htb _ wd_461) (fun _ h9 => h9) rfl d_R_leftOf_48 ?_
        refine lv_iload hx hb d_R_leftOf_51 (lv_at hl 4 rfl) ?_
        refine ec_ialdN (f := w3) (i := t) hx hb hK hP 9 0 rfl rfl (by omega) (by decide) d_R_leftOf_53 ?_
        refine lv_iload_n hx hb d_R_leftOf_54 rfl (lv_at hl 2 rfl) ?_
        refine ec_icmp_eq (tgt := 80) hx hb d_R_leftOf_55 rfl (by omega) (by omega) (fun h55 => ?_) (fun h55 => ?_)
        · refine lv_iconst (v := nI 1) hx hb d_R_leftOf_80 (by decide) ?_
          refine lv_goto (tgt := 85) hx hb d_R_leftOf_81 rfl ?_
          refine lv_istore hx hb d_R_leftOf_85 hl (by decide) rfl (fun ls hl => ?_)
          replace hl : lv_has ls 6 [(5, .int (nI 1)), (0, .ref (a 0)), (1, .int (nI i)), (2, .int (nI j)), (3, .int (ec_oi o)), (4, .int (nI t))] := hl
          refine lv_iload hx hb d_R_leftOf_87 (lv_at hl 0 rfl) ?_
          refine ec_if_eq (tgt := 97) hx hb d_R_leftOf_89 rfl (by omega) (fun h89_3 => ?_) (fun h89_3 => ?_)
          · exact absurd h89_3 (by decide)
          · refine lv_iload hx hb d_R_leftOf_92 (lv_at hl 5 rfl) ?_
            refine lv_goto (tgt := 98) hx hb d_R_leftOf_94 rfl ?_
            refine lv_istore_n hx hb d_R_leftOf_98 rfl hl (by decide) rfl (fun ls hl => ?_)
            replace hl : lv_has ls 6 [(3, .int (nI t)), (5, .int (nI 1)), (0, .ref (a 0)), (1, .int (nI i)), (2, .int (nI j)), (4, .int (nI t))] := hl
            refine ec_iinc (k := 5) hx hb d_R_leftOf_99 hl rfl (by decide) rfl (fun ls hl => ?_)
            replace hl : lv_has ls 6 [(4, .int (nI (t + 1))), (3, .int (nI t)), (5, .int (nI 1)), (0, .ref (a 0)), (1, .int (nI i)), (2, .int (nI j))] := hl
            refine lv_goto (tgt := 5) hx hb d_R_leftOf_102 rfl ?_
            exact ih5 _ (by omega) (t := t + 1) (o := some t) (ls := ls) (hl := lv_sub hl [3, 4, 5, 1, 0] rfl) (hle := (by omega)) (hI := (ec_lfo_y (by unfold ec_sd; omega))) (hk5 := rfl)
        · refine lv_aload_n hx hb d_R_leftOf_58 rfl (lv_at hl 0 rfl) ?_
          refine va_get (D := (dC, dI)) (ci := 5) (v := .ref (a 9)) (C := R_R) (T := T_R) (N := 18) hx hb htb in_R hown hK hP 0 rfl rfl 12 (by decide) (htb _ wd_461) (fun _ h9 => h9) rfl d_R_leftOf_59 ?_
          refine lv_iload hx hb d_R_leftOf_62 (lv_at hl 4 rfl) ?_
          refine ec_ialdN (f := w3) (i := t) hx hb hK hP 9 0 rfl rfl (by omega) (by decide) d_R_leftOf_64 ?_
          refine lv_iload_n hx hb d_R_leftOf_65 rfl (lv_at hl 1 rfl) ?_
          refine ec_icmp_ne (tgt := 84) hx hb d_R_leftOf_66 rfl (by omega) (by omega) (fun h66_1 => ?_) (fun h66_1 => ?_)
          · refine lv_iconst (v := nI 0) hx hb d_R_leftOf_84 (by decide) ?_
            refine lv_istore hx hb d_R_leftOf_85 hl (by decide) rfl (fun ls hl => ?_)
            replace hl : lv_has ls 6 [(5, .int (nI 0)), (0, .ref (a 0)), (1, .int (nI i)), (2, .int (nI j)), (3, .int (ec_oi o)), (4, .int (nI t))] := hl
            refine lv_iload hx hb d_R_leftOf_87 (lv_at hl 0 rfl) ?_
            refine ec_if_eq (tgt := 97) hx hb d_R_leftOf_89 rfl (by omega) (fun h89_4 => ?_) (fun h89_4 => ?_)
            · refine lv_iload_n hx hb d_R_leftOf_97 rfl (lv_at hl 4 rfl) ?_
              refine lv_istore_n hx hb d_R_leftOf_98 rfl hl (by decide) rfl (fun ls hl => ?_)
              replace hl : lv_has ls 6 [(3, .int (ec_oi o)), (5, .int (nI 0)), (0, .ref (a 0)), (1, .int (nI i)), (2, .int (nI j)), (4, .int (nI t))] := hl
              refine ec_iinc (k := 5) hx hb d_R_leftOf_99 hl rfl (by decide) rfl (fun ls hl => ?_)
              replace hl : lv_has ls 6 [(4, .int (nI (t + 1))), (3, .int (ec_oi o)), (5, .int (nI 0)), (0, .ref (a 0)), (1, .int (nI i)), (2, .int (nI j))] := hl
              refine lv_goto (tgt := 5) hx hb d_R_leftOf_102 rfl ?_
              exact ih5 _ (by omega) (t := t + 1) (o := o) (ls := ls) (hl := lv_sub hl [3, 4, 5, 1, 0] rfl) (hle := (by omega)) (hI := (ec_lfo_n hI (by unfold ec_sd; omega))) (hk5 := rfl)
            · exact absurd h89_4 (by decide)
          · refine lv_aload_n hx hb d_R_leftOf_69 rfl (lv_at hl 0 rfl) ?_
            refine va_get (D := (dC, dI)) (ci := 5) (v := .ref (a 7)) (C := R_R) (T := T_R) (N := 18) hx hb htb in_R hown hK hP 0 rfl rfl 10 (by decide) (htb _ wd_459) (fun _ h9 => h9) rfl d_R_leftOf_70 ?_
            refine lv_iload hx hb d_R_leftOf_73 (lv_at hl 4 rfl) ?_
            refine ec_ialdN (f := w1) (i := t) hx hb hK hP 7 0 rfl rfl (by omega) (by decide) d_R_leftOf_75 ?_
            refine lv_iload_n hx hb d_R_leftOf_76 rfl (lv_at hl 2 rfl) ?_
            refine ec_icmp_ne (tgt := 84) hx hb d_R_leftOf_77 rfl (by omega) (by omega) (fun h77_1 => ?_) (fun h77_1 => ?_)
            · refine lv_iconst (v := nI 0) hx hb d_R_leftOf_84 (by decide) ?_
              refine lv_istore hx hb d_R_leftOf_85 hl (by decide) rfl (fun ls hl => ?_)
              replace hl : lv_has ls 6 [(5, .int (nI 0)), (0, .ref (a 0)), (1, .int (nI i)), (2, .int (nI j)), (3, .int (ec_oi o)), (4, .int (nI t))] := hl
              refine lv_iload hx hb d_R_leftOf_87 (lv_at hl 0 rfl) ?_
              refine ec_if_eq (tgt := 97) hx hb d_R_leftOf_89 rfl (by omega) (fun h89_5 => ?_) (fun h89_5 => ?_)
              · refine lv_iload_n hx hb d_R_leftOf_97 rfl (lv_at hl 4 rfl) ?_
                refine lv_istore_n hx hb d_R_leftOf_98 rfl hl (by decide) rfl (fun ls hl => ?_)
                replace hl : lv_has ls 6 [(3, .int (ec_oi o)), (5, .int (nI 0)), (0, .ref (a 0)), (1, .int (nI i)), (2, .int (nI j)), (4, .int (nI t))] := hl
                refine ec_iinc (k := 5) hx hb d_R_leftOf_99 hl rfl (by decide) rfl (fun ls hl => ?_)
                replace hl : lv_has ls 6 [(4, .int (nI (t + 1))), (3, .int (ec_oi o)), (5, .int (nI 0)), (0, .ref (a 0)), (1, .int (nI i)), (2, .int (nI j))] := hl
                refine lv_goto (tgt := 5) hx hb d_R_leftOf_102 rfl ?_
                exact ih5 _ (by omega) (t := t + 1) (o := o) (ls := ls) (hl := lv_sub hl [3, 4, 5, 1, 0] rfl) (hle := (by omega)) (hI := (ec_lfo_n hI (by unfold ec_sd; omega))) (hk5 := rfl)
              · exact absurd h89_5 (by decide)
            · refine lv_iconst (v := nI 1) hx hb d_R_leftOf_80 (by decide) ?_
              refine lv_goto (tgt := 85) hx hb d_R_leftOf_81 rfl ?_
              refine lv_istore hx hb d_R_leftOf_85 hl (by decide) rfl (fun ls hl => ?_)
              replace hl : lv_has ls 6 [(5, .int (nI 1)), (0, .ref (a 0)), (1, .int (nI i)), (2, .int (nI j)), (3, .int (ec_oi o)), (4, .int (nI t))] := hl
              refine lv_iload hx hb d_R_leftOf_87 (lv_at hl 0 rfl) ?_
              refine ec_if_eq (tgt := 97) hx hb d_R_leftOf_89 rfl (by omega) (fun h89_6 => ?_) (fun h89_6 => ?_)
              · exact absurd h89_6 (by decide)
              · refine lv_iload hx hb d_R_leftOf_92 (lv_at hl 5 rfl) ?_
                refine lv_goto (tgt := 98) hx hb d_R_leftOf_94 rfl ?_
                refine lv_istore_n hx hb d_R_leftOf_98 rfl hl (by decide) rfl (fun ls hl => ?_)
                replace hl : lv_has ls 6 [(3, .int (nI t)), (5, .int (nI 1)), (0, .ref (a 0)), (1, .int (nI i)), (2, .int (nI j)), (4, .int (nI t))] := hl
                refine ec_iinc (k := 5) hx hb d_R_leftOf_99 hl rfl (by decide) rfl (fun ls hl => ?_)
                replace hl : lv_has ls 6 [(4, .int (nI (t + 1))), (3, .int (nI t)), (5, .int (nI 1)), (0, .ref (a 0)), (1, .int (nI i)), (2, .int (nI j))] := hl
                refine lv_goto (tgt := 5) hx hb d_R_leftOf_102 rfl ?_
                exact ih5 _ (by omega) (t := t + 1) (o := some t) (ls := ls) (hl := lv_sub hl [3, 4, 5, 1, 0] rfl) (hle := (by omega)) (hI := (ec_lfo_y (by unfold ec_sd; omega))) (hk5 := rfl)
    · refine lv_aload_n hx hb d_R_leftOf_25 rfl (lv_at hl 0 rfl) ?_
      refine va_get (D := (dC, dI)) (ci := 5) (v := .ref (a 8)) (C := R_R) (T := T_R) (N := 18) hx hb htb in_R hown hK hP 0 rfl rfl 11 (by decide) (htb _ wd_460) (fun _ h9 => h9) rfl d_R_leftOf_26 ?_
      refine lv_iload hx hb d_R_leftOf_29 (lv_at hl 4 rfl) ?_
      refine ec_ialdN (f := w2) (i := t) hx hb hK hP 8 0 rfl rfl (by omega) (by decide) d_R_leftOf_31 ?_
      refine lv_iload_n hx hb d_R_leftOf_32 rfl (lv_at hl 2 rfl) ?_
      refine ec_icmp_eq (tgt := 80) hx hb d_R_leftOf_33 rfl (by omega) (by omega) (fun h33 => ?_) (fun h33 => ?_)
      · refine lv_iconst (v := nI 1) hx hb d_R_leftOf_80 (by decide) ?_
        refine lv_goto (tgt := 85) hx hb d_R_leftOf_81 rfl ?_
        refine lv_istore hx hb d_R_leftOf_85 hl (by decide) rfl (fun ls hl => ?_)
        replace hl : lv_has ls 6 [(5, .int (nI 1)), (0, .ref (a 0)), (1, .int (nI i)), (2, .int (nI j)), (3, .int (ec_oi o)), (4, .int (nI t))] := hl
        refine lv_iload hx hb d_R_leftOf_87 (lv_at hl 0 rfl) ?_
        refine ec_if_eq (tgt := 97) hx hb d_R_leftOf_89 rfl (by omega) (fun h89_7 => ?_) (fun h89_7 => ?_)
        · exact absurd h89_7 (by decide)
        · refine lv_iload hx hb d_R_leftOf_92 (lv_at hl 5 rfl) ?_
          refine lv_goto (tgt := 98) hx hb d_R_leftOf_94 rfl ?_
          refine lv_istore_n hx hb d_R_leftOf_98 rfl hl (by decide) rfl (fun ls hl => ?_)
          replace hl : lv_has ls 6 [(3, .int (nI t)), (5, .int (nI 1)), (0, .ref (a 0)), (1, .int (nI i)), (2, .int (nI j)), (4, .int (nI t))] := hl
          refine ec_iinc (k := 5) hx hb d_R_leftOf_99 hl rfl (by decide) rfl (fun ls hl => ?_)
          replace hl : lv_has ls 6 [(4, .int (nI (t + 1))), (3, .int (nI t)), (5, .int (nI 1)), (0, .ref (a 0)), (1, .int (nI i)), (2, .int (nI j))] := hl
          refine lv_goto (tgt := 5) hx hb d_R_leftOf_102 rfl ?_
          exact ih5 _ (by omega) (t := t + 1) (o := some t) (ls := ls) (hl := lv_sub hl [3, 4, 5, 1, 0] rfl) (hle := (by omega)) (hI := (ec_lfo_y (by unfold ec_sd; omega))) (hk5 := rfl)
      · refine lv_aload_n hx hb d_R_leftOf_36 rfl (lv_at hl 0 rfl) ?_
        refine va_get (D := (dC, dI)) (ci := 5) (v := .ref (a 8)) (C := R_R) (T := T_R) (N := 18) hx hb htb in_R hown hK hP 0 rfl rfl 11 (by decide) (htb _ wd_460) (fun _ h9 => h9) rfl d_R_leftOf_37 ?_
        refine lv_iload hx hb d_R_leftOf_40 (lv_at hl 4 rfl) ?_
        refine ec_ialdN (f := w2) (i := t) hx hb hK hP 8 0 rfl rfl (by omega) (by decide) d_R_leftOf_42 ?_
        refine lv_iload_n hx hb d_R_leftOf_43 rfl (lv_at hl 1 rfl) ?_
        refine ec_icmp_ne (tgt := 58) hx hb d_R_leftOf_44 rfl (by omega) (by omega) (fun h44_1 => ?_) (fun h44_1 => ?_)
        · refine lv_aload_n hx hb d_R_leftOf_58 rfl (lv_at hl 0 rfl) ?_
          refine va_get (D := (dC, dI)) (ci := 5) (v := .ref (a 9)) (C := R_R) (T := T_R) (N := 18) hx hb htb in_R hown hK hP 0 rfl rfl 12 (by decide) (htb _ wd_461) (fun _ h9 => h9) rfl d_R_leftOf_59 ?_
          refine lv_iload hx hb d_R_leftOf_62 (lv_at hl 4 rfl) ?_
          refine ec_ialdN (f := w3) (i := t) hx hb hK hP 9 0 rfl rfl (by omega) (by decide) d_R_leftOf_64 ?_
          refine lv_iload_n hx hb d_R_leftOf_65 rfl (lv_at hl 1 rfl) ?_
          refine ec_icmp_ne (tgt := 84) hx hb d_R_leftOf_66 rfl (by omega) (by omega) (fun h66_2 => ?_) (fun h66_2 => ?_)
          · refine lv_iconst (v := nI 0) hx hb d_R_leftOf_84 (by decide) ?_
            refine lv_istore hx hb d_R_leftOf_85 hl (by decide) rfl (fun ls hl => ?_)
            replace hl : lv_has ls 6 [(5, .int (nI 0)), (0, .ref (a 0)), (1, .int (nI i)), (2, .int (nI j)), (3, .int (ec_oi o)), (4, .int (nI t))] := hl
            refine lv_iload hx hb d_R_leftOf_87 (lv_at hl 0 rfl) ?_
            refine ec_if_eq (tgt := 97) hx hb d_R_leftOf_89 rfl (by omega) (fun h89_8 => ?_) (fun h89_8 => ?_)
            · refine lv_iload_n hx hb d_R_leftOf_97 rfl (lv_at hl 4 rfl) ?_
              refine lv_istore_n hx hb d_R_leftOf_98 rfl hl (by decide) rfl (fun ls hl => ?_)
              replace hl : lv_has ls 6 [(3, .int (ec_oi o)), (5, .int (nI 0)), (0, .ref (a 0)), (1, .int (nI i)), (2, .int (nI j)), (4, .int (nI t))] := hl
              refine ec_iinc (k := 5) hx hb d_R_leftOf_99 hl rfl (by decide) rfl (fun ls hl => ?_)
              replace hl : lv_has ls 6 [(4, .int (nI (t + 1))), (3, .int (ec_oi o)), (5, .int (nI 0)), (0, .ref (a 0)), (1, .int (nI i)), (2, .int (nI j))] := hl
              refine lv_goto (tgt := 5) hx hb d_R_leftOf_102 rfl ?_
              exact ih5 _ (by omega) (t := t + 1) (o := o) (ls := ls) (hl := lv_sub hl [3, 4, 5, 1, 0] rfl) (hle := (by omega)) (hI := (ec_lfo_n hI (by unfold ec_sd; omega))) (hk5 := rfl)
            · exact absurd h89_8 (by decide)
          · refine lv_aload_n hx hb d_R_leftOf_69 rfl (lv_at hl 0 rfl) ?_
            refine va_get (D := (dC, dI)) (ci := 5) (v := .ref (a 7)) (C := R_R) (T := T_R) (N := 18) hx hb htb in_R hown hK hP 0 rfl rfl 10 (by decide) (htb _ wd_459) (fun _ h9 => h9) rfl d_R_leftOf_70 ?_
            refine lv_iload hx hb d_R_leftOf_73 (lv_at hl 4 rfl) ?_
            refine ec_ialdN (f := w1) (i := t) hx hb hK hP 7 0 rfl rfl (by omega) (by decide) d_R_leftOf_75 ?_
            refine lv_iload_n hx hb d_R_leftOf_76 rfl (lv_at hl 2 rfl) ?_
            refine ec_icmp_ne (tgt := 84) hx hb d_R_leftOf_77 rfl (by omega) (by omega) (fun h77_2 => ?_) (fun h77_2 => ?_)
            · refine lv_iconst (v := nI 0) hx hb d_R_leftOf_84 (by decide) ?_
              refine lv_istore hx hb d_R_leftOf_85 hl (by decide) rfl (fun ls hl => ?_)
              replace hl : lv_has ls 6 [(5, .int (nI 0)), (0, .ref (a 0)), (1, .int (nI i)), (2, .int (nI j)), (3, .int (ec_oi o)), (4, .int (nI t))] := hl
              refine lv_iload hx hb d_R_leftOf_87 (lv_at hl 0 rfl) ?_
              refine ec_if_eq (tgt := 97) hx hb d_R_leftOf_89 rfl (by omega) (fun h89_9 => ?_) (fun h89_9 => ?_)
              · refine lv_iload_n hx hb d_R_leftOf_97 rfl (lv_at hl 4 rfl) ?_
                refine lv_istore_n hx hb d_R_leftOf_98 rfl hl (by decide) rfl (fun ls hl => ?_)
                replace hl : lv_has ls 6 [(3, .int (ec_oi o)), (5, .int (nI 0)), (0, .ref (a 0)), (1, .int (nI i)), (2, .int (nI j)), (4, .int (nI t))] := hl
                refine ec_iinc (k := 5) hx hb d_R_leftOf_99 hl rfl (by decide) rfl (fun ls hl => ?_)
                replace hl : lv_has ls 6 [(4, .int (nI (t + 1))), (3, .int (ec_oi o)), (5, .int (nI 0)), (0, .ref (a 0)), (1, .int (nI i)), (2, .int (nI j))] := hl
                refine lv_goto (tgt := 5) hx hb d_R_leftOf_102 rfl ?_
                exact ih5 _ (by omega) (t := t + 1) (o := o) (ls := ls) (hl := lv_sub hl [3, 4, 5, 1, 0] rfl) (hle := (by omega)) (hI := (ec_lfo_n hI (by unfold ec_sd; omega))) (hk5 := rfl)
              · exact absurd h89_9 (by decide)
            · refine lv_iconst (v := nI 1) hx hb d_R_leftOf_80 (by decide) ?_
              refine lv_goto (tgt := 85) hx hb d_R_leftOf_81 rfl ?_
              refine lv_istore hx hb d_R_leftOf_85 hl (by decide) rfl (fun ls hl => ?_)
              replace hl : lv_has ls 6 [(5, .int (nI 1)), (0, .ref (a 0)), (1, .int (nI i)), (2, .int (nI j)), (3, .int (ec_oi o)), (4, .int (nI t))] := hl
              refine lv_iload hx hb d_R_leftOf_87 (lv_at hl 0 rfl) ?_
              refine ec_if_eq (tgt := 97) hx hb d_R_leftOf_89 rfl (by omega) (fun h89_10 => ?_) (fun h89_10 => ?_)
              · exact absurd h89_10 (by decide)
              · refine lv_iload hx hb d_R_leftOf_92 (lv_at hl 5 rfl) ?_
                refine lv_goto (tgt := 98) hx hb d_R_leftOf_94 rfl ?_
                refine lv_istore_n hx hb d_R_leftOf_98 rfl hl (by decide) rfl (fun ls hl => ?_)
                replace hl : lv_has ls 6 [(3, .int (nI t)), (5, .int (nI 1)), (0, .ref (a 0)), (1, .int (nI i)), (2, .int (nI j)), (4, .int (nI t))] := hl
                refine ec_iinc (k := 5) hx hb d_R_leftOf_99 hl rfl (by decide) rfl (fun ls hl => ?_)
                replace hl : lv_has ls 6 [(4, .int (nI (t + 1))), (3, .int (nI t)), (5, .int (nI 1)), (0, .ref (a 0)), (1, .int (nI i)), (2, .int (nI j))] := hl
                refine lv_goto (tgt := 5) hx hb d_R_leftOf_102 rfl ?_
                exact ih5 _ (by omega) (t := t + 1) (o := some t) (ls := ls) (hl := lv_sub hl [3, 4, 5, 1, 0] rfl) (hle := (by omega)) (hI := (ec_lfo_y (by unfold ec_sd; omega))) (hk5 := rfl)
        · refine lv_aload_n hx hb d_R_leftOf_47 rfl (lv_at hl 0 rfl) ?_
          refine va_get (D := (dC, dI)) (ci := 5) (v := .ref (a 9)) (C := R_R) (T := T_R) (N := 18) hx hb htb in_R hown hK hP 0 rfl rfl 12 (by decide) (htb _ wd_461) (fun _ h9 => h9) rfl d_R_leftOf_48 ?_
          refine lv_iload hx hb d_R_leftOf_51 (lv_at hl 4 rfl) ?_
          refine ec_ialdN (f := w3) (i := t) hx hb hK hP 9 0 rfl rfl (by omega) (by decide) d_R_leftOf_53 ?_
          refine lv_iload_n hx hb d_R_leftOf_54 rfl (lv_at hl 2 rfl) ?_
          refine ec_icmp_eq (tgt := 80) hx hb d_R_leftOf_55 rfl (by omega) (by omega) (fun h55_1 => ?_) (fun h55_1 => ?_)
          · refine lv_iconst (v := nI 1) hx hb d_R_leftOf_80 (by decide) ?_
            refine lv_goto (tgt := 85) hx hb d_R_leftOf_81 rfl ?_
            refine lv_istore hx hb d_R_leftOf_85 hl (by decide) rfl (fun ls hl => ?_)
            replace hl : lv_has ls 6 [(5, .int (nI 1)), (0, .ref (a 0)), (1, .int (nI i)), (2, .int (nI j)), (3, .int (ec_oi o)), (4, .int (nI t))] := hl
            refine lv_iload hx hb d_R_leftOf_87 (lv_at hl 0 rfl) ?_
            refine ec_if_eq (tgt := 97) hx hb d_R_leftOf_89 rfl (by omega) (fun h89_11 => ?_) (fun h89_11 => ?_)
            · exact absurd h89_11 (by decide)
            · refine lv_iload hx hb d_R_leftOf_92 (lv_at hl 5 rfl) ?_
              refine lv_goto (tgt := 98) hx hb d_R_leftOf_94 rfl ?_
              refine lv_istore_n hx hb d_R_leftOf_98 rfl hl (by decide) rfl (fun ls hl => ?_)
              replace hl : lv_has ls 6 [(3, .int (nI t)), (5, .int (nI 1)), (0, .ref (a 0)), (1, .int (nI i)), (2, .int (nI j)), (4, .int (nI t))] := hl
              refine ec_iinc (k := 5) hx hb d_R_leftOf_99 hl rfl (by decide) rfl (fun ls hl => ?_)
              replace hl : lv_has ls 6 [(4, .int (nI (t + 1))), (3, .int (nI t)), (5, .int (nI 1)), (0, .ref (a 0)), (1, .int (nI i)), (2, .int (nI j))] := hl
              refine lv_goto (tgt := 5) hx hb d_R_leftOf_102 rfl ?_
              exact ih5 _ (by omega) (t := t + 1) (o := some t) (ls := ls) (hl := lv_sub hl [3, 4, 5, 1, 0] rfl) (hle := (by omega)) (hI := (ec_lfo_y (by unfold ec_sd; omega))) (hk5 := rfl)
          · refine lv_aload_n hx hb d_R_leftOf_58 rfl (lv_at hl 0 rfl) ?_
            refine va_get (D := (dC, dI)) (ci := 5) (v := .ref (a 9)) (C := R_R) (T := T_R) (N := 18) hx hb htb in_R hown hK hP 0 rfl rfl 12 (by decide) (htb _ wd_461) (fun _ h9 => h9) rfl d_R_leftOf_59 ?_
            refine lv_iload hx hb d_R_leftOf_62 (lv_at hl 4 rfl) ?_
            refine ec_ialdN (f := w3) (i := t) hx hb hK hP 9 0 rfl rfl (by omega) (by decide) d_R_leftOf_64 ?_
            refine lv_iload_n hx hb d_R_leftOf_65 rfl (lv_at hl 1 rfl) ?_
            refine ec_icmp_ne (tgt := 84) hx hb d_R_leftOf_66 rfl (by omega) (by omega) (fun h66_3 => ?_) (fun h66_3 => ?_)
            · refine lv_iconst (v := nI 0) hx hb d_R_leftOf_84 (by decide) ?_
              refine lv_istore hx hb d_R_leftOf_85 hl (by decide) rfl (fun ls hl => ?_)
              replace hl : lv_has ls 6 [(5, .int (nI 0)), (0, .ref (a 0)), (1, .int (nI i)), (2, .int (nI j)), (3, .int (ec_oi o)), (4, .int (nI t))] := hl
              refine lv_iload hx hb d_R_leftOf_87 (lv_at hl 0 rfl) ?_
              refine ec_if_eq (tgt := 97) hx hb d_R_leftOf_89 rfl (by omega) (fun h89_12 => ?_) (fun h89_12 => ?_)
              · refine lv_iload_n hx hb d_R_leftOf_97 rfl (lv_at hl 4 rfl) ?_
                refine lv_istore_n hx hb d_R_leftOf_98 rfl hl (by decide) rfl (fun ls hl => ?_)
                replace hl : lv_has ls 6 [(3, .int (ec_oi o)), (5, .int (nI 0)), (0, .ref (a 0)), (1, .int (nI i)), (2, .int (nI j)), (4, .int (nI t))] := hl
                refine ec_iinc (k := 5) hx hb d_R_leftOf_99 hl rfl (by decide) rfl (fun ls hl => ?_)
                replace hl : lv_has ls 6 [(4, .int (nI (t + 1))), (3, .int (ec_oi o)), (5, .int (nI 0)), (0, .ref (a 0)), (1, .int (nI i)), (2, .int (nI j))] := hl
                refine lv_goto (tgt := 5) hx hb d_R_leftOf_102 rfl ?_
                exact ih5 _ (by omega) (t := t + 1) (o := o) (ls := ls) (hl := lv_sub hl [3, 4, 5, 1, 0] rfl) (hle := (by omega)) (hI := (ec_lfo_n hI (by unfold ec_sd; omega))) (hk5 := rfl)
              · exact absurd h89_12 (by decide)
            · refine lv_aload_n hx hb d_R_leftOf_69 rfl (lv_at hl 0 rfl) ?_
              refine va_get (D := (dC, dI)) (ci := 5) (v := .ref (a 7)) (C := R_R) (T := T_R) (N := 18) hx hb htb in_R hown hK hP 0 rfl rfl 10 (by decide) (htb _ wd_459) (fun _ h9 => h9) rfl d_R_leftOf_70 ?_
              refine lv_iload hx hb d_R_leftOf_73 (lv_at hl 4 rfl) ?_
              refine ec_ialdN (f := w1) (i := t) hx hb hK hP 7 0 rfl rfl (by omega) (by decide) d_R_leftOf_75 ?_
              refine lv_iload_n hx hb d_R_leftOf_76 rfl (lv_at hl 2 rfl) ?_
              refine ec_icmp_ne (tgt := 84) hx hb d_R_leftOf_77 rfl (by omega) (by omega) (fun h77_3 => ?_) (fun h77_3 => ?_)
              · refine lv_iconst (v := nI 0) hx hb d_R_leftOf_84 (by decide) ?_
                refine lv_istore hx hb d_R_leftOf_85 hl (by decide) rfl (fun ls hl => ?_)
                replace hl : lv_has ls 6 [(5, .int (nI 0)), (0, .ref (a 0)), (1, .int (nI i)), (2, .int (nI j)), (3, .int (ec_oi o)), (4, .int (nI t))] := hl
                refine lv_iload hx hb d_R_leftOf_87 (lv_at hl 0 rfl) ?_
                refine ec_if_eq (tgt := 97) hx hb d_R_leftOf_89 rfl (by omega) (fun h89_13 => ?_) (fun h89_13 => ?_)
                · refine lv_iload_n hx hb d_R_leftOf_97 rfl (lv_at hl 4 rfl) ?_
                  refine lv_istore_n hx hb d_R_leftOf_98 rfl hl (by decide) rfl (fun ls hl => ?_)
                  replace hl : lv_has ls 6 [(3, .int (ec_oi o)), (5, .int (nI 0)), (0, .ref (a 0)), (1, .int (nI i)), (2, .int (nI j)), (4, .int (nI t))] := hl
                  refine ec_iinc (k := 5) hx hb d_R_leftOf_99 hl rfl (by decide) rfl (fun ls hl => ?_)
                  replace hl : lv_has ls 6 [(4, .int (nI (t + 1))), (3, .int (ec_oi o)), (5, .int (nI 0)), (0, .ref (a 0)), (1, .int (nI i)), (2, .int (nI j))] := hl
                  refine lv_goto (tgt := 5) hx hb d_R_leftOf_102 rfl ?_
                  exact ih5 _ (by omega) (t := t + 1) (o := o) (ls := ls) (hl := lv_sub hl [3, 4, 5, 1, 0] rfl) (hle := (by omega)) (hI := (ec_lfo_n hI (by unfold ec_sd; omega))) (hk5 := rfl)
                · exact absurd h89_13 (by decide)
              · refine lv_iconst (v := nI 1) hx hb d_R_leftOf_80 (by decide) ?_
                refine lv_goto (tgt := 85) hx hb d_R_leftOf_81 rfl ?_
                refine lv_istore hx hb d_R_leftOf_85 hl (by decide) rfl (fun ls hl => ?_)
                replace hl : lv_has ls 6 [(5, .int (nI 1)), (0, .ref (a 0)), (1, .int (nI i)), (2, .int (nI j)), (3, .int (ec_oi o)), (4, .int (nI t))] := hl
                refine lv_iload hx hb d_R_leftOf_87 (lv_at hl 0 rfl) ?_
                refine ec_if_eq (tgt := 97) hx hb d_R_leftOf_89 rfl (by omega) (fun h89_14 => ?_) (fun h89_14 => ?_)
                · exact absurd h89_14 (by decide)
                · refine lv_iload hx hb d_R_leftOf_92 (lv_at hl 5 rfl) ?_
                  refine lv_goto (tgt := 98) hx hb d_R_leftOf_94 rfl ?_
                  refine lv_istore_n hx hb d_R_leftOf_98 rfl hl (by decide) rfl (fun ls hl => ?_)
                  replace hl : lv_has ls 6 [(3, .int (nI t)), (5, .int (nI 1)), (0, .ref (a 0)), (1, .int (nI i)), (2, .int (nI j)), (4, .int (nI t))] := hl
                  refine ec_iinc (k := 5) hx hb d_R_leftOf_99 hl rfl (by decide) rfl (fun ls hl => ?_)
                  replace hl : lv_has ls 6 [(4, .int (nI (t + 1))), (3, .int (nI t)), (5, .int (nI 1)), (0, .ref (a 0)), (1, .int (nI i)), (2, .int (nI j))] := hl
                  refine lv_goto (tgt := 5) hx hb d_R_leftOf_102 rfl ?_
                  exact ih5 _ (by omega) (t := t + 1) (o := some t) (ls := ls) (hl := lv_sub hl [3, 4, 5, 1, 0] rfl) (hle := (by omega)) (hI := (ec_lfo_y (by unfold ec_sd; omega))) (hk5 := rfl)

set_option maxRecDepth 100000 in
set_option maxHeartbeats 4000000 in
theorem c_R_open (l : Launch) (dC : Nat → ClassId) (dI : Nat → Nat → Nat) (a : Nat → Nat) (cI cZ cJ : ClassId) (rn : Nat) (rx : Nat → Int32) (ry : Nat → Int32) (rl : Nat) (rf : Nat → Nat) (rt : Nat → Nat) (rh : Nat) (gx : Nat → Int32) (gy : Nat → Int32) (rc : Nat) (w1 : Nat → Nat) (w2 : Nat → Nat) (w3 : Nat → Nat) (rg : Nat → Prop) (rk : Nat) (kc : Nat → Nat) (kf : Nat → Prop) (kp : Nat → Int64) (rest : va_W) (i : Nat) (j : Nat) (g12 : rn ≤ 12) (grl : rl ≤ 10) (gll : ∀ i, i < rl → rf i < rn ∧ rt i < rn) (gw : ∀ t, t < rc → w1 t < rn ∧ w2 t < rn ∧ w3 t < rn) (grc : rc ≤ 24) (hi : i < rn) (hj : j < rn) : Met l y_R_open (Cond.code y_R_open b_R_open 3 (some .boolean) :: ec_tbl) ({ frames := 1, cells := 0, slots := 0, locals := 25 }) (va_Pc [.ref (a 0), .int (nI i), .int (nI j)] (fun U => va_P (dC, dI) vwCl (wR a cI cZ cJ rn rx ry rl rf rt rh gx gy rc w1 w2 w3 rg rk kc kf kp ++ rest) U.heap ∧ va_K (dC, dI) vwCl (ec_tys cI cZ cJ) U)) (vp_Si (fun r : Int32 => ec_isB r (ec_opR rc w1 w2 w3 (ec_E rl rf rt) i j))) 0 0 (fun _ => False) := by
  refine Met.ofW (cc := b_R_open) (maxL := 3) (ret := (some .boolean)) (by decide) rfl ?_
  intro p e s m args below meth c s₁ B hml hv0
  obtain ⟨rfl, hP, hK⟩ := hv0
  have hx := B.exec
  have hb := B.bytes
  have hr := B.returns
  have hts := atoms_spec (ws := (Cond.code y_R_open b_R_open 3 (some .boolean) :: ec_tbl)) B.pre
  have htb : ∀ w ∈ ec_tbl, w.before _ s = true := fun w h => hts w (List.mem_cons_of_mem _ h)
  clear hts
  have hown : s.vm.findClass "ExactMeshModel" = some m.cls := findClass_of_methodNamed B.named
  have hlocks := B.notSynchronized
  have hl := lv_entry ([.ref (a 0), .int (nI i), .int (nI j)]) (n := 3) (Nat.le_of_ble_eq_true rfl)
  rw [lg_entry_eq]
  generalize (lg_sl ([.ref (a 0), .int (nI i), .int (nI j)]) ++ List.replicate (3 - (lg_sl ([.ref (a 0), .int (nI i), .int (nI j)])).length) Slot.unset).toArray = ls at hl ⊢
  replace hl : lv_has ls 3 [(0, .ref (a 0)), (1, .int (nI i)), (2, .int (nI j))] := hl
  refine lv_aload_n hx hb d_R_open_0 rfl (lv_at hl 0 rfl) ?_
  refine lv_iload_n hx hb d_R_open_1 rfl (lv_at hl 1 rfl) ?_
  refine lv_iload_n hx hb d_R_open_2 rfl (lv_at hl 2 rfl) ?_
  refine ec_vSi (C := "ExactMeshModel") (ci := 5) (q := (R_R, T_R, 18)) (q0 := 0) (As := [.int (nI i), .int (nI j)]) (rest := []) ⟨hx, hb, hml, hown, htb⟩ (c_R_isLine l dC dI a cI cZ cJ rn rx ry rl rf rt rh gx gy rc w1 w2 w3 rg rk kc kf kp rest i j g12 grl gll (by omega) (by omega)) kv_R_isLine hK hP rfl rfl rfl wd_533 ⟨Nat.le_of_ble_eq_true rfl, Nat.le_of_ble_eq_true rfl⟩ ⟨rfl, rfl⟩ rfl hl.1 rfl (Nat.le_of_ble_eq_true rfl) d_R_open_3 ⟨Nat.zero_le _, Nat.zero_le _⟩ (fun r3 hr3 => ?_)
  replace hr3 : ec_isB r3 (ec_E rl rf rt i j) := hr3
  refine ec_if_neB (tgt := 22) hx hb hr3 d_R_open_6 rfl (fun h6 => ?_) (fun h6 => ?_)
  · refine lv_iconst (v := nI 0) hx hb d_R_open_22 (by decide) ?_
    exact W.zret hx hb hr rfl (fun tS ht hW => ⟨_, rfl, (ec_isB.f0 (fun q => q.1 h6)), ht⟩) (fun _ h => nomatch h) d_R_open_23
  · refine lv_aload_n hx hb d_R_open_9 rfl (lv_at hl 0 rfl) ?_
    refine lv_iload_n hx hb d_R_open_10 rfl (lv_at hl 2 rfl) ?_
    refine lv_iload_n hx hb d_R_open_11 rfl (lv_at hl 1 rfl) ?_
    refine ec_vSi (C := "ExactMeshModel") (ci := 5) (q := (R_R, T_R, 18)) (q0 := 0) (As := [.int (nI j), .int (nI i)]) (rest := []) ⟨hx, hb, hml, hown, htb⟩ (c_R_leftOf l dC dI a cI cZ cJ rn rx ry rl rf rt rh gx gy rc w1 w2 w3 rg rk kc kf kp rest j i g12 gw grc (by omega) (by omega)) kv_R_leftOf hK hP rfl rfl rfl wd_618 ⟨Nat.le_of_ble_eq_true rfl, Nat.le_of_ble_eq_true rfl⟩ ⟨rfl, rfl⟩ rfl hl.1 rfl (Nat.le_of_ble_eq_true rfl) d_R_open_12 ⟨Nat.zero_le _, Nat.zero_le _⟩ (fun r12 hr12 => ?_)
    replace hr12 : ∃ o, r12 = ec_oi o ∧ ec_lfo rc w1 w2 w3 j i o := hr12
    obtain ⟨or12, er12, hor12⟩ := hr12
    subst er12
    refine ec_if_geO (o := or12) (tgt := 22) hx hb (fun x q => by have := (hor12.1 x q).1; omega) d_R_open_15 rfl (fun h15 => ?_) (fun h15 => ?_)
    · refine lv_iconst (v := nI 0) hx hb d_R_open_22 (by decide) ?_
      exact W.zret hx hb hr rfl (fun tS ht hW => ⟨_, rfl, (ec_isB.f0 (fun q => by obtain ⟨x, z⟩ := h15; have y := hor12.1 x z; exact q.2 x y.1 y.2)), ht⟩) (fun _ h => nomatch h) d_R_open_23
    · refine lv_iconst (v := nI 1) hx hb d_R_open_18 (by decide) ?_
      refine lv_goto (tgt := 23) hx hb d_R_open_19 rfl ?_
      exact W.zret hx hb hr rfl (fun tS ht hW => ⟨_, rfl, (ec_isB.t1 ⟨h6, hor12.2 h15⟩), ht⟩) (fun _ h => nomatch h) d_R_open_23

set_option maxRecDepth 100000 in
set_option maxHeartbeats 4000000 in
theorem c_R_next (l : Launch) (dC : Nat → ClassId) (dI : Nat → Nat → Nat) (a : Nat → Nat) (cI cZ cJ : ClassId) (rn : Nat) (rx : Nat → Int32) (ry : Nat → Int32) (rl : Nat) (rf : Nat → Nat) (rt : Nat → Nat) (rh : Nat) (gx : Nat → Int32) (gy : Nat → Int32) (rc : Nat) (w1 : Nat → Nat) (w2 : Nat → Nat) (w3 : Nat → Nat) (rg : Nat → Prop) (rk : Nat) (kc : Nat → Nat) (kf : Nat → Prop) (kp : Nat → Int64) (rest : va_W) (i : Nat) (j : Nat) (g12 : rn ≤ 12) (grl : rl ≤ 10) (gll : ∀ i, i < rl → rf i < rn ∧ rt i < rn) (gw : ∀ t, t < rc → w1 t < rn ∧ w2 t < rn ∧ w3 t < rn) (grc : rc ≤ 24) (guq : ec_uq3 rc w1 w2 w3) (hi : i < rn) (hj : j < rn) : Met l y_R_next (Cond.code y_R_next b_R_next 4 (some .boolean) :: ec_tbl) ({ frames := 1, cells := 0, slots := 0, locals := 25 }) (va_Pc [.ref (a 0), .int (nI i), .int (nI j)] (fun U => va_P (dC, dI) vwCl (wR a cI cZ cJ rn rx ry rl rf rt rh gx gy rc w1 w2 w3 rg rk kc kf kp ++ rest) U.heap ∧ va_K (dC, dI) vwCl (ec_tys cI cZ cJ) U)) (vp_Si (fun r : Int32 => ec_isB r (ec_nxR rc w1 w2 w3 (ec_E rl rf rt) rg i j))) 0 0 (fun _ => False) := by
  refine Met.ofW (cc := b_R_next) (maxL := 4) (ret := (some .boolean)) (by decide) rfl ?_
  intro p e s m args below meth c s₁ B hml hv0
  obtain ⟨rfl, hP, hK⟩ := hv0
  have hx := B.exec
  have hb := B.bytes
  have hr := B.returns
  have hts := atoms_spec (ws := (Cond.code y_R_next b_R_next 4 (some .boolean) :: ec_tbl)) B.pre
  have htb : ∀ w ∈ ec_tbl, w.before _ s = true := fun w h => hts w (List.mem_cons_of_mem _ h)
  clear hts
  have hown : s.vm.findClass "ExactMeshModel" = some m.cls := findClass_of_methodNamed B.named
  have hlocks := B.notSynchronized
  have hl := lv_entry ([.ref (a 0), .int (nI i), .int (nI j)]) (n := 4) (Nat.le_of_ble_eq_true rfl)
  rw [lg_entry_eq]
  generalize (lg_sl ([.ref (a 0), .int (nI i), .int (nI j)]) ++ List.replicate (4 - (lg_sl ([.ref (a 0), .int (nI i), .int (nI j)])).length) Slot.unset).toArray = ls at hl ⊢
  replace hl : lv_has ls 4 [(0, .ref (a 0)), (1, .int (nI i)), (2, .int (nI j))] := hl
  refine lv_aload_n hx hb d_R_next_0 rfl (lv_at hl 0 rfl) ?_
  refine lv_iload_n hx hb d_R_next_1 rfl (lv_at hl 2 rfl) ?_
  refine lv_iload_n hx hb d_R_next_2 rfl (lv_at hl 1 rfl) ?_
  refine ec_vSi (C := "ExactMeshModel") (ci := 5) (q := (R_R, T_R, 18)) (q0 := 0) (As := [.int (nI j), .int (nI i)]) (rest := []) ⟨hx, hb, hml, hown, htb⟩ (c_R_leftOf l dC dI a cI cZ cJ rn rx ry rl rf rt rh gx gy rc w1 w2 w3 rg rk kc kf kp rest j i g12 gw grc (by omega) (by omega)) kv_R_leftOf hK hP rfl rfl rfl wd_618 ⟨Nat.le_of_ble_eq_true rfl, Nat.le_of_ble_eq_true rfl⟩ ⟨rfl, rfl⟩ rfl hl.1 rfl (Nat.le_of_ble_eq_true rfl) d_R_next_3 ⟨Nat.zero_le _, Nat.zero_le _⟩ (fun r3 hr3 => ?_)
  replace hr3 : ∃ o, r3 = ec_oi o ∧ ec_lfo rc w1 w2 w3 j i o := hr3
  obtain ⟨or3, er3, hor3⟩ := hr3
  subst er3
  refine lv_istore_n hx hb d_R_next_6 rfl hl (by decide) rfl (fun ls hl => ?_)
  replace hl : lv_has ls 4 [(3, .int (ec_oi or3)), (0, .ref (a 0)), (1, .int (nI i)), (2, .int (nI j))] := hl
  refine lv_aload_n hx hb d_R_next_7 rfl (lv_at hl 1 rfl) ?_
  refine lv_iload_n hx hb d_R_next_8 rfl (lv_at hl 2 rfl) ?_
  refine lv_iload_n hx hb d_R_next_9 rfl (lv_at hl 3 rfl) ?_
  refine ec_vSi (C := "ExactMeshModel") (ci := 5) (q := (R_R, T_R, 18)) (q0 := 0) (As := [.int (nI i), .int (nI j)]) (rest := []) ⟨hx, hb, hml, hown, htb⟩ (c_R_isLine l dC dI a cI cZ cJ rn rx ry rl rf rt rh gx gy rc w1 w2 w3 rg rk kc kf kp rest i j g12 grl gll (by omega) (by omega)) kv_R_isLine hK hP rfl rfl rfl wd_533 ⟨Nat.le_of_ble_eq_true rfl, Nat.le_of_ble_eq_true rfl⟩ ⟨rfl, rfl⟩ rfl hl.1 rfl (Nat.le_of_ble_eq_true rfl) d_R_next_10 ⟨Nat.zero_le _, Nat.zero_le _⟩ (fun r10 hr10 => ?_)
  replace hr10 : ec_isB r10 (ec_E rl rf rt i j) := hr10
  refine ec_if_neB (tgt := 33) hx hb hr10 d_R_next_13 rfl (fun h13 => ?_) (fun h13 => ?_)
  · refine lv_iconst (v := nI 0) hx hb d_R_next_33 (by decide) ?_
    exact W.zret hx hb hr rfl (fun tS ht hW => ⟨_, rfl, (ec_isB.f0 (fun q => q.1 h13)), ht⟩) (fun _ h => nomatch h) d_R_next_34
  · generalize hqvt : or3 = ovt at hl ⊢
    cases ovt with
    | none =>
      replace hl : lv_has ls 4 [(3, .int (-1)), (0, .ref (a 0)), (1, .int (nI i)), (2, .int (nI j))] := hl
      refine lv_iload_n hx hb d_R_next_16 rfl (lv_at hl 0 rfl) ?_
      refine lv_if_lt (tgt := 33) hx hb d_R_next_17 rfl (fun h17 => ?_) (fun h17 => ?_)
      · refine lv_iconst (v := nI 0) hx hb d_R_next_33 (by decide) ?_
        exact W.zret hx hb hr rfl (fun tS ht hW => ⟨_, rfl, (ec_isB.f0 (fun ⟨_, x, hx2, y, _⟩ => hor3.2 hqvt x hx2 y)), ht⟩) (fun _ h => nomatch h) d_R_next_34
      · exact absurd (by decide) h17
    | some vt =>
      replace hl : lv_has ls 4 [(3, .int (nI vt)), (0, .ref (a 0)), (1, .int (nI i)), (2, .int (nI j))] := hl
      have hvt := (hor3.1 vt hqvt).1
      refine lv_iload_n hx hb d_R_next_16 rfl (lv_at hl 0 rfl) ?_
      refine ec_if_lt (tgt := 33) hx hb d_R_next_17 rfl (by omega) ?_
      refine lv_aload_n hx hb d_R_next_20 rfl (lv_at hl 1 rfl) ?_
      refine va_get (D := (dC, dI)) (ci := 5) (v := .ref (a 10)) (C := R_R) (T := T_R) (N := 18) hx hb htb in_R hown hK hP 0 rfl rfl 13 (by decide) (htb _ wd_462) (fun _ h9 => h9) rfl d_R_next_21 ?_
      refine lv_iload_n hx hb d_R_next_24 rfl (lv_at hl 0 rfl) ?_
      refine ec_zaldZ (f := rg) (i := vt) hx hb hK hP 10 1 rfl rfl (by omega) (by decide) d_R_next_25 ?_
      refine ec_if_eqB (tgt := 33) hx hb (ec_bp_is _) d_R_next_26 rfl (fun h26 => ?_) (fun h26 => ?_)
      · refine lv_iconst (v := nI 0) hx hb d_R_next_33 (by decide) ?_
        exact W.zret hx hb hr rfl (fun tS ht hW => ⟨_, rfl, (ec_isB.f0 (fun ⟨_, x, hx2, y, z⟩ => h26 (by rw [guq vt x _ _ (hor3.1 vt hqvt).1 hx2 (hor3.1 vt hqvt).2 y]; exact z))), ht⟩) (fun _ h => nomatch h) d_R_next_34
      · refine lv_iconst (v := nI 1) hx hb d_R_next_29 (by decide) ?_
        refine lv_goto (tgt := 34) hx hb d_R_next_30 rfl ?_
        exact W.zret hx hb hr rfl (fun tS ht hW => ⟨_, rfl, (ec_isB.t1 ⟨h13, vt, (hor3.1 vt hqvt).1, (hor3.1 vt hqvt).2, h26⟩), ht⟩) (fun _ h => nomatch h) d_R_next_34

set_option maxRecDepth 100000 in
set_option maxHeartbeats 4000000 in
theorem c_R_keep (l : Launch) (dC : Nat → ClassId) (dI : Nat → Nat → Nat) (a : Nat → Nat) (cI cZ cJ : ClassId) (rn : Nat) (rx : Nat → Int32) (ry : Nat → Int32) (rl : Nat) (rf : Nat → Nat) (rt : Nat → Nat) (rh : Nat) (gx : Nat → Int32) (gy : Nat → Int32) (rc : Nat) (w1 : Nat → Nat) (w2 : Nat → Nat) (w3 : Nat → Nat) (rg : Nat → Prop) (rk : Nat) (kc : Nat → Nat) (kf : Nat → Prop) (kp : Nat → Int64) (rest : va_W) (i : Nat) (j : Nat) (k : Nat) (g12 : rn ≤ 12) (grl : rl ≤ 10) (gll : ∀ i, i < rl → rf i < rn ∧ rt i < rn) (hi : i < rn) (hj : j < rn) (hk : k < rn) (hroom : rk < 24) (A : Nat → Prop) (hD : va_D A (wR a cI cZ cJ rn rx ry rl rf rt rh gx gy rc w1 w2 w3 rg rk kc kf kp ++ rest)) : Met l y_R_keep (Cond.code y_R_keep b_R_keep 4 none :: ec_tbl) ({ frames := 1, cells := 0, slots := 0, locals := 24 }) (va_Pc [.ref (a 0), .int (nI i), .int (nI j), .int (nI k)] (fun U => va_P (dC, dI) vwCl (wR a cI cZ cJ rn rx ry rl rf rt rh gx gy rc w1 w2 w3 rg rk kc kf kp ++ rest) U.heap ∧ va_K (dC, dI) vwCl (ec_tys cI cZ cJ) U)) (va_Qv (fun (u : ec_K3) => ec_KE rk kc kf (ec_E rl rf rt) i j k u) (fun u t => va_P (dC, dI) vwCl (wR a cI cZ cJ rn rx ry rl rf rt rh gx gy rc w1 w2 w3 rg u.1 u.2.1 u.2.2 kp ++ rest) t.heap) A) 0 0 A := by
  refine Met.ofW (cc := b_R_keep) (maxL := 4) (ret := none) (by decide) rfl ?_
  intro p e s m args below meth c s₁ B hml hv0
  obtain ⟨rfl, hP, hK⟩ := hv0
  have hx := B.exec
  have hb := B.bytes
  have hr := B.returns
  have hts := atoms_spec (ws := (Cond.code y_R_keep b_R_keep 4 none :: ec_tbl)) B.pre
  have htb : ∀ w ∈ ec_tbl, w.before _ s = true := fun w h => hts w (List.mem_cons_of_mem _ h)
  clear hts
  have hown : s.vm.findClass "ExactMeshModel" = some m.cls := findClass_of_methodNamed B.named
  have hlocks := B.notSynchronized
  have hl := lv_entry ([.ref (a 0), .int (nI i), .int (nI j), .int (nI k)]) (n := 4) (Nat.le_of_ble_eq_true rfl)
  rw [lg_entry_eq]
  generalize (lg_sl ([.ref (a 0), .int (nI i), .int (nI j), .int (nI k)]) ++ List.replicate (4 - (lg_sl ([.ref (a 0), .int (nI i), .int (nI j), .int (nI k)])).length) Slot.unset).toArray = ls at hl ⊢
  replace hl : lv_has ls 4 [(0, .ref (a 0)), (1, .int (nI i)), (2, .int (nI j)), (3, .int (nI k))] := hl
  refine ec_start (fun H locs hH hlocs => ?_)
  replace hP : va_P (dC, dI) vwCl (wR a cI cZ cJ rn rx ry rl rf rt rh gx gy rc w1 w2 w3 rg rk kc kf kp ++ rest) H := by rw [hH]; exact hP
  have hS : va_S A s.heap H locs := by rw [hH, hlocs]; exact va_S.rf
  clear hH hlocs
  refine lv_iload_n hx hb d_R_keep_0 rfl (lv_at hl 1 rfl) ?_
  refine lv_iload_n hx hb d_R_keep_1 rfl (lv_at hl 2 rfl) ?_
  refine ec_icmp_gt (tgt := 10) hx hb d_R_keep_2 rfl (by omega) (by omega) (fun h2 => ?_) (fun h2 => ?_)
  · exact W.vret hx hb hr (fun tS ht hW => ⟨⟨(rk, kc, kf), rfl, (Or.inr ⟨by omega, rfl⟩), by show va_P _ _ _ tS.heap; rw [ht]; exact hP⟩, hS.F ht⟩) hS.2.2 d_R_keep_10
  · refine lv_iload_n hx hb d_R_keep_5 rfl (lv_at hl 1 rfl) ?_
    refine lv_iload_n hx hb d_R_keep_6 rfl (lv_at hl 3 rfl) ?_
    refine ec_icmp_le (tgt := 11) hx hb d_R_keep_7 rfl (by omega) (by omega) (fun h7 => ?_) (fun h7 => ?_)
    · refine lv_aload_n hx hb d_R_keep_11 rfl (lv_at hl 0 rfl) ?_
      refine va_get (D := (dC, dI)) (ci := 5) (v := .ref (a 11)) (C := R_R) (T := T_R) (N := 18) hx hb htb in_R hown hK hP 0 rfl rfl 15 (by decide) (htb _ wd_464) (fun _ h9 => h9) rfl d_R_keep_12 ?_
      refine lv_iconst (v := nI 3) hx hb d_R_keep_15 (by decide) ?_
      refine lv_aload_n hx hb d_R_keep_16 rfl (lv_at hl 0 rfl) ?_
      refine va_get (D := (dC, dI)) (ci := 5) (v := .int (nI rk)) (C := R_R) (T := T_R) (N := 18) hx hb htb in_R hown hK hP 0 rfl rfl 14 (by decide) (htb _ wd_463) (fun _ h9 => h9) rfl d_R_keep_17 ?_
      refine ec_imul hx hb d_R_keep_20 ?_
      refine lv_iload_n hx hb d_R_keep_21 rfl (lv_at hl 1 rfl) ?_
      refine ec_iastN (f := kc) (i := 3 * rk) (x := i) hx hb hK hP hD hS 11 0 rfl rfl rfl (by omega) (by decide) d_R_keep_22 (fun H locs hP hD hS => ?_)
      replace hP : va_P (dC, dI) vwCl (wR a cI cZ cJ rn rx ry rl rf rt rh gx gy rc w1 w2 w3 rg rk (va_up kc (3 * rk) i) kf kp ++ rest) H := hP
      replace hD : va_D A (wR a cI cZ cJ rn rx ry rl rf rt rh gx gy rc w1 w2 w3 rg rk (va_up kc (3 * rk) i) kf kp ++ rest) := hD
      refine lv_aload_n hx hb d_R_keep_23 rfl (lv_at hl 0 rfl) ?_
      refine va_get (D := (dC, dI)) (ci := 5) (v := .ref (a 11)) (C := R_R) (T := T_R) (N := 18) hx hb htb in_R hown hK hP 0 rfl rfl 15 (by decide) (htb _ wd_464) (fun _ h9 => h9) rfl d_R_keep_24 ?_
      refine lv_iconst (v := nI 3) hx hb d_R_keep_27 (by decide) ?_
      refine lv_aload_n hx hb d_R_keep_28 rfl (lv_at hl 0 rfl) ?_
      refine va_get (D := (dC, dI)) (ci := 5) (v := .int (nI rk)) (C := R_R) (T := T_R) (N := 18) hx hb htb in_R hown hK hP 0 rfl rfl 14 (by decide) (htb _ wd_463) (fun _ h9 => h9) rfl d_R_keep_29 ?_
      refine ec_imul hx hb d_R_keep_32 ?_
      refine lv_iconst (v := nI 1) hx hb d_R_keep_33 (by decide) ?_
      refine ec_iadd hx hb d_R_keep_34 ?_
      refine lv_iload_n hx hb d_R_keep_35 rfl (lv_at hl 2 rfl) ?_
      refine ec_iastN (f := va_up kc (3 * rk) i) (i := (3 * rk) + 1) (x := j) hx hb hK hP hD hS 11 0 rfl rfl rfl (by omega) (by decide) d_R_keep_36 (fun H locs hP hD hS => ?_)
      replace hP : va_P (dC, dI) vwCl (wR a cI cZ cJ rn rx ry rl rf rt rh gx gy rc w1 w2 w3 rg rk (va_up (va_up kc (3 * rk) i) ((3 * rk) + 1) j) kf kp ++ rest) H := hP
      replace hD : va_D A (wR a cI cZ cJ rn rx ry rl rf rt rh gx gy rc w1 w2 w3 rg rk (va_up (va_up kc (3 * rk) i) ((3 * rk) + 1) j) kf kp ++ rest) := hD
      refine lv_aload_n hx hb d_R_keep_37 rfl (lv_at hl 0 rfl) ?_
      refine va_get (D := (dC, dI)) (ci := 5) (v := .ref (a 11)) (C := R_R) (T := T_R) (N := 18) hx hb htb in_R hown hK hP 0 rfl rfl 15 (by decide) (htb _ wd_464) (fun _ h9 => h9) rfl d_R_keep_38 ?_
      refine lv_iconst (v := nI 3) hx hb d_R_keep_41 (by decide) ?_
      refine lv_aload_n hx hb d_R_keep_42 rfl (lv_at hl 0 rfl) ?_
      refine va_get (D := (dC, dI)) (ci := 5) (v := .int (nI rk)) (C := R_R) (T := T_R) (N := 18) hx hb htb in_R hown hK hP 0 rfl rfl 14 (by decide) (htb _ wd_463) (fun _ h9 => h9) rfl d_R_keep_43 ?_
      refine ec_imul hx hb d_R_keep_46 ?_
      refine lv_iconst (v := nI 2) hx hb d_R_keep_47 (by decide) ?_
      refine ec_iadd hx hb d_R_keep_48 ?_
      refine lv_iload_n hx hb d_R_keep_49 rfl (lv_at hl 3 rfl) ?_
      refine ec_iastN (f := va_up (va_up kc (3 * rk) i) ((3 * rk) + 1) j) (i := (3 * rk) + 2) (x := k) hx hb hK hP hD hS 11 0 rfl rfl rfl (by omega) (by decide) d_R_keep_50 (fun H locs hP hD hS => ?_)
      replace hP : va_P (dC, dI) vwCl (wR a cI cZ cJ rn rx ry rl rf rt rh gx gy rc w1 w2 w3 rg rk (va_up (va_up (va_up kc (3 * rk) i) ((3 * rk) + 1) j) ((3 * rk) + 2) k) kf kp ++ rest) H := hP
      replace hD : va_D A (wR a cI cZ cJ rn rx ry rl rf rt rh gx gy rc w1 w2 w3 rg rk (va_up (va_up (va_up kc (3 * rk) i) ((3 * rk) + 1) j) ((3 * rk) + 2) k) kf kp ++ rest) := hD
      refine lv_aload_n hx hb d_R_keep_51 rfl (lv_at hl 0 rfl) ?_
      refine va_get (D := (dC, dI)) (ci := 5) (v := .ref (a 12)) (C := R_R) (T := T_R) (N := 18) hx hb htb in_R hown hK hP 0 rfl rfl 16 (by decide) (htb _ wd_465) (fun _ h9 => h9) rfl d_R_keep_52 ?_
      refine lv_iconst (v := nI 3) hx hb d_R_keep_55 (by decide) ?_
      refine lv_aload_n hx hb d_R_keep_56 rfl (lv_at hl 0 rfl) ?_
      refine va_get (D := (dC, dI)) (ci := 5) (v := .int (nI rk)) (C := R_R) (T := T_R) (N := 18) hx hb htb in_R hown hK hP 0 rfl rfl 14 (by decide) (htb _ wd_463) (fun _ h9 => h9) rfl d_R_keep_57 ?_
      refine ec_imul hx hb d_R_keep_60 ?_
      refine lv_aload_n hx hb d_R_keep_61 rfl (lv_at hl 0 rfl) ?_
      refine lv_iload_n hx hb d_R_keep_62 rfl (lv_at hl 1 rfl) ?_
      refine lv_iload_n hx hb d_R_keep_63 rfl (lv_at hl 2 rfl) ?_
      refine ec_vSi (C := "ExactMeshModel") (ci := 5) (q := (R_R, T_R, 18)) (q0 := 0) (As := [.int (nI i), .int (nI j)]) (rest := [.int (nI (3 * rk)), .ref (a 12)]) ⟨hx, hb, hml, hown, htb⟩ (c_R_isLine l dC dI a cI cZ cJ rn rx ry rl rf rt rh gx gy rc w1 w2 w3 rg rk (va_up (va_up (va_up kc (3 * rk) i) ((3 * rk) + 1) j) ((3 * rk) + 2) k) kf kp rest i j g12 grl gll (by omega) (by omega)) kv_R_isLine hK hP rfl rfl rfl wd_533 ⟨Nat.le_of_ble_eq_true rfl, Nat.le_of_ble_eq_true rfl⟩ ⟨rfl, rfl⟩ rfl hl.1 rfl (Nat.le_of_ble_eq_true rfl) d_R_keep_64 ⟨Nat.zero_le _, Nat.zero_le _⟩ (fun r64 hr64 => ?_)
      replace hr64 : ec_isB r64 (ec_E rl rf rt i j) := hr64
      refine ec_zastZ (f := kf) (i := 3 * rk) (x := ec_E rl rf rt i j) hx hb hK hP hD hS 12 1 rfl rfl (ec_isB.bp hr64) (by omega) (by decide) d_R_keep_67 (fun H locs hP hD hS => ?_)
      replace hP : va_P (dC, dI) vwCl (wR a cI cZ cJ rn rx ry rl rf rt rh gx gy rc w1 w2 w3 rg rk (va_up (va_up (va_up kc (3 * rk) i) ((3 * rk) + 1) j) ((3 * rk) + 2) k) (va_up kf (3 * rk) (ec_E rl rf rt i j)) kp ++ rest) H := hP
      replace hD : va_D A (wR a cI cZ cJ rn rx ry rl rf rt rh gx gy rc w1 w2 w3 rg rk (va_up (va_up (va_up kc (3 * rk) i) ((3 * rk) + 1) j) ((3 * rk) + 2) k) (va_up kf (3 * rk) (ec_E rl rf rt i j)) kp ++ rest) := hD
      refine lv_aload_n hx hb d_R_keep_68 rfl (lv_at hl 0 rfl) ?_
      refine va_get (D := (dC, dI)) (ci := 5) (v := .ref (a 12)) (C := R_R) (T := T_R) (N := 18) hx hb htb in_R hown hK hP 0 rfl rfl 16 (by decide) (htb _ wd_465) (fun _ h9 => h9) rfl d_R_keep_69 ?_
      refine lv_iconst (v := nI 3) hx hb d_R_keep_72 (by decide) ?_
      refine lv_aload_n hx hb d_R_keep_73 rfl (lv_at hl 0 rfl) ?_
      refine va_get (D := (dC, dI)) (ci := 5) (v := .int (nI rk)) (C := R_R) (T := T_R) (N := 18) hx hb htb in_R hown hK hP 0 rfl rfl 14 (by decide) (htb _ wd_463) (fun _ h9 => h9) rfl d_R_keep_74 ?_
      refine ec_imul hx hb d_R_keep_77 ?_
      refine lv_iconst (v := nI 1) hx hb d_R_keep_78 (by decide) ?_
      refine ec_iadd hx hb d_R_keep_79 ?_
      refine lv_aload_n hx hb d_R_keep_80 rfl (lv_at hl 0 rfl) ?_
      refine lv_iload_n hx hb d_R_keep_81 rfl (lv_at hl 2 rfl) ?_
      refine lv_iload_n hx hb d_R_keep_82 rfl (lv_at hl 3 rfl) ?_
      refine ec_vSi (C := "ExactMeshModel") (ci := 5) (q := (R_R, T_R, 18)) (q0 := 0) (As := [.int (nI j), .int (nI k)]) (rest := [.int (nI ((3 * rk) + 1)), .ref (a 12)]) ⟨hx, hb, hml, hown, htb⟩ (c_R_isLine l dC dI a cI cZ cJ rn rx ry rl rf rt rh gx gy rc w1 w2 w3 rg rk (va_up (va_up (va_up kc (3 * rk) i) ((3 * rk) + 1) j) ((3 * rk) + 2) k) (va_up kf (3 * rk) (ec_E rl rf rt i j)) kp rest j k g12 grl gll (by omega) (by omega)) kv_R_isLine hK hP rfl rfl rfl wd_533 ⟨Nat.le_of_ble_eq_true rfl, Nat.le_of_ble_eq_true rfl⟩ ⟨rfl, rfl⟩ rfl hl.1 rfl (Nat.le_of_ble_eq_true rfl) d_R_keep_83 ⟨Nat.zero_le _, Nat.zero_le _⟩ (fun r83 hr83 => ?_)
      replace hr83 : ec_isB r83 (ec_E rl rf rt j k) := hr83
      refine ec_zastZ (f := va_up kf (3 * rk) (ec_E rl rf rt i j)) (i := (3 * rk) + 1) (x := ec_E rl rf rt j k) hx hb hK hP hD hS 12 1 rfl rfl (ec_isB.bp hr83) (by omega) (by decide) d_R_keep_86 (fun H locs hP hD hS => ?_)
      replace hP : va_P (dC, dI) vwCl (wR a cI cZ cJ rn rx ry rl rf rt rh gx gy rc w1 w2 w3 rg rk (va_up (va_up (va_up kc (3 * rk) i) ((3 * rk) + 1) j) ((3 * rk) + 2) k) (va_up (va_up kf (3 * rk) (ec_E rl rf rt i j)) ((3 * rk) + 1) (ec_E rl rf rt j k)) kp ++ rest) H := hP
      replace hD : va_D A (wR a cI cZ cJ rn rx ry rl rf rt rh gx gy rc w1 w2 w3 rg rk (va_up (va_up (va_up kc (3 * rk) i) ((3 * rk) + 1) j) ((3 * rk) + 2) k) (va_up (va_up kf (3 * rk) (ec_E rl rf rt i j)) ((3 * rk) + 1) (ec_E rl rf rt j k)) kp ++ rest) := hD
      refine lv_aload_n hx hb d_R_keep_87 rfl (lv_at hl 0 rfl) ?_
      refine va_get (D := (dC, dI)) (ci := 5) (v := .ref (a 12)) (C := R_R) (T := T_R) (N := 18) hx hb htb in_R hown hK hP 0 rfl rfl 16 (by decide) (htb _ wd_465) (fun _ h9 => h9) rfl d_R_keep_88 ?_
      refine lv_iconst (v := nI 3) hx hb d_R_keep_91 (by decide) ?_
      refine lv_aload_n hx hb d_R_keep_92 rfl (lv_at hl 0 rfl) ?_
      refine va_get (D := (dC, dI)) (ci := 5) (v := .int (nI rk)) (C := R_R) (T := T_R) (N := 18) hx hb htb in_R hown hK hP 0 rfl rfl 14 (by decide) (htb _ wd_463) (fun _ h9 => h9) rfl d_R_keep_93 ?_
      refine ec_imul hx hb d_R_keep_96 ?_
      refine lv_iconst (v := nI 2) hx hb d_R_keep_97 (by decide) ?_
      refine ec_iadd hx hb d_R_keep_98 ?_
      refine lv_aload_n hx hb d_R_keep_99 rfl (lv_at hl 0 rfl) ?_
      refine lv_iload_n hx hb d_R_keep_100 rfl (lv_at hl 3 rfl) ?_
      refine lv_iload_n hx hb d_R_keep_101 rfl (lv_at hl 1 rfl) ?_
      refine ec_vSi (C := "ExactMeshModel") (ci := 5) (q := (R_R, T_R, 18)) (q0 := 0) (As := [.int (nI k), .int (nI i)]) (rest := [.int (nI ((3 * rk) + 2)), .ref (a 12)]) ⟨hx, hb, hml, hown, htb⟩ (c_R_isLine l dC dI a cI cZ cJ rn rx ry rl rf rt rh gx gy rc w1 w2 w3 rg rk (va_up (va_up (va_up kc (3 * rk) i) ((3 * rk) + 1) j) ((3 * rk) + 2) k) (va_up (va_up kf (3 * rk) (ec_E rl rf rt i j)) ((3 * rk) + 1) (ec_E rl rf rt j k)) kp rest k i g12 grl gll (by omega) (by omega)) kv_R_isLine hK hP rfl rfl rfl wd_533 ⟨Nat.le_of_ble_eq_true rfl, Nat.le_of_ble_eq_true rfl⟩ ⟨rfl, rfl⟩ rfl hl.1 rfl (Nat.le_of_ble_eq_true rfl) d_R_keep_102 ⟨Nat.zero_le _, Nat.zero_le _⟩ (fun r102 hr102 => ?_)
      replace hr102 : ec_isB r102 (ec_E rl rf rt k i) := hr102
      refine ec_zastZ (f := va_up (va_up kf (3 * rk) (ec_E rl rf rt i j)) ((3 * rk) + 1) (ec_E rl rf rt j k)) (i := (3 * rk) + 2) (x := ec_E rl rf rt k i) hx hb hK hP hD hS 12 1 rfl rfl (ec_isB.bp hr102) (by omega) (by decide) d_R_keep_105 (fun H locs hP hD hS => ?_)
      replace hP : va_P (dC, dI) vwCl (wR a cI cZ cJ rn rx ry rl rf rt rh gx gy rc w1 w2 w3 rg rk (va_up (va_up (va_up kc (3 * rk) i) ((3 * rk) + 1) j) ((3 * rk) + 2) k) (va_up (va_up (va_up kf (3 * rk) (ec_E rl rf rt i j)) ((3 * rk) + 1) (ec_E rl rf rt j k)) ((3 * rk) + 2) (ec_E rl rf rt k i)) kp ++ rest) H := hP
      replace hD : va_D A (wR a cI cZ cJ rn rx ry rl rf rt rh gx gy rc w1 w2 w3 rg rk (va_up (va_up (va_up kc (3 * rk) i) ((3 * rk) + 1) j) ((3 * rk) + 2) k) (va_up (va_up (va_up kf (3 * rk) (ec_E rl rf rt i j)) ((3 * rk) + 1) (ec_E rl rf rt j k)) ((3 * rk) + 2) (ec_E rl rf rt k i)) kp ++ rest) := hD
      refine lv_aload_n hx hb d_R_keep_106 rfl (lv_at hl 0 rfl) ?_
      refine lv_dup hx hb d_R_keep_107 rfl ?_
      refine va_get (D := (dC, dI)) (ci := 5) (v := .int (nI rk)) (C := R_R) (T := T_R) (N := 18) hx hb htb in_R hown hK hP 0 rfl rfl 14 (by decide) (htb _ wd_463) (fun _ h9 => h9) rfl d_R_keep_108 ?_
      refine lv_iconst (v := nI 1) hx hb d_R_keep_111 (by decide) ?_
      refine ec_iadd hx hb d_R_keep_112 ?_
      refine va_put (D := (dC, dI)) (ci := 5) (v := .int (nI (rk + 1))) (ty := .int) (C := R_R) (T := T_R) (N := 18) hx hb htb in_R t_R ty_R nm_R hown hK hP hD hS 0 rfl rfl 14 (by decide) (htb _ wd_463) (fun _ h9 => h9) rfl (by decide +kernel) rfl rfl (Nat.le_of_ble_eq_true rfl) d_R_keep_113 (fun H locs hP hD hS => ?_)
      replace hP : va_P (dC, dI) vwCl (wR a cI cZ cJ rn rx ry rl rf rt rh gx gy rc w1 w2 w3 rg (rk + 1) (va_up (va_up (va_up kc (3 * rk) i) ((3 * rk) + 1) j) ((3 * rk) + 2) k) (va_up (va_up (va_up kf (3 * rk) (ec_E rl rf rt i j)) ((3 * rk) + 1) (ec_E rl rf rt j k)) ((3 * rk) + 2) (ec_E rl rf rt k i)) kp ++ rest) H := hP
      replace hD : va_D A (wR a cI cZ cJ rn rx ry rl rf rt rh gx gy rc w1 w2 w3 rg (rk + 1) (va_up (va_up (va_up kc (3 * rk) i) ((3 * rk) + 1) j) ((3 * rk) + 2) k) (va_up (va_up (va_up kf (3 * rk) (ec_E rl rf rt i j)) ((3 * rk) + 1) (ec_E rl rf rt j k)) ((3 * rk) + 2) (ec_E rl rf rt k i)) kp ++ rest) := hD
      exact W.vret hx hb hr (fun tS ht hW => ⟨⟨(rk + 1, va_up (va_up (va_up kc (3 * rk) i) ((3 * rk) + 1) j) ((3 * rk) + 2) k, va_up (va_up (va_up kf (3 * rk) (ec_E rl rf rt i j)) ((3 * rk) + 1) (ec_E rl rf rt j k)) ((3 * rk) + 2) (ec_E rl rf rt k i)), rfl, (Or.inl ⟨by omega, rfl⟩), by show va_P _ _ _ tS.heap; rw [ht]; exact hP⟩, hS.F ht⟩) hS.2.2 d_R_keep_116
    · exact W.vret hx hb hr (fun tS ht hW => ⟨⟨(rk, kc, kf), rfl, (Or.inr ⟨by omega, rfl⟩), by show va_P _ _ _ tS.heap; rw [ht]; exact hP⟩, hS.F ht⟩) hS.2.2 d_R_keep_10
