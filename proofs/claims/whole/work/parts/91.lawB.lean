set_option maxRecDepth 100000 in
set_option maxHeartbeats 4000000 in
theorem law_5 {p : Program} {e : Env} {s : State} {m : MethodId} {below : List Frame} {meth : Method} {c : Code} (l : Launch) {b0 L : Nat} {xs : Nat → Int32} (hL : L ≤ 2560) (C0 : lw_At p s m meth c b0 L xs) {A : Nat → Prop} (hbA : ¬ A b0) {dC : Nat → ClassId} {dI : Nat → Nat → Nat} {a b : Nat → Nat} {cI cZ cJ : ClassId} (hK : va_K (dC, dI) vwCl (ec_tys cI cZ cJ) s) {H : Heap} {locs : List Loc} (hLS : ec_LS dC dI a b cI cZ cJ A s.heap H locs) {ls : Array Slot} {i : Nat} (hl : lv_has ls 4 [(3, .int (nI i)), (0, .ref b0), (1, .ref (a 0)), (2, .ref (b 0))]) (hi : i + 5 ≤ L) (kk : ∀ (H : Heap) (locs : List Loc), ec_LS dC dI a b cI cZ cJ A s.heap H locs → W p l e room_1 s m #[Value.ref b0] below meth c H locs 36 851 (lw_Z below #[Value.ref b0] s) (F0 m 630 ls [])) : W p l e room_1 s m #[Value.ref b0] below meth c H locs 36 851 (lw_Z below #[Value.ref b0] s) (F0 m 311 ls []) := by
  obtain ⟨hx, hb, hr, hml, hown0, hts, hX, hbl, hlocks, hgv⟩ := C0
  have hown : s.vm.findClass "ExactMeshLaw" = some m.cls := hown0
  have htb : ∀ w ∈ ec_tbl, w.before #[Value.ref b0] s = true := fun w h => hts w (List.mem_filter.mp h).1
  obtain ⟨pn, px, py, ln, lf, lt, lr, sn, sf, st, sr, th, hn, qx, qy, mn, mc, mk, mo, mr, rc, w1, w2, w3, rg, rk, kc, kf, kp, gS, g3, gM, gL, hrk, hP, hD, hS⟩ := hLS
  subst hrk
  have g12 := gS.1
  have gN := gS.2.1
  have gln := gS.2.2.2.1
  have gmn := gM.1
  have grk := gM.1
  have gkc := ec_gkc gM gL
  have guq := ec_guq g12 gM gL
  refine lv_aload_n hx hb d_W_311 rfl (lv_at hl 2 rfl) ?_
  refine lv_aload_n hx hb d_W_312 rfl (lv_at hl 1 rfl) ?_
  refine lv_iload_n hx hb d_W_313 rfl (lv_at hl 0 rfl) ?_
  refine lv_iconst (v := nI 1) hx hb d_W_314 (by decide) ?_
  refine ec_iadd hx hb d_W_315 ?_
  refine ec_sld (i := i + 1) hx hb hX hbl hbA hS (by omega) (by omega) d_W_316 ?_
  refine lv_if_eq (tgt := 324) hx hb d_W_317 rfl (fun h317 => ?_) (fun h317 => ?_)
  · refine lv_iconst (v := nI 0) hx hb d_W_324 (by decide) ?_
    refine lv_aload_n hx hb d_W_325 rfl (lv_at hl 1 rfl) ?_
    refine lv_iload_n hx hb d_W_326 rfl (lv_at hl 0 rfl) ?_
    refine lv_iconst (v := nI 2) hx hb d_W_327 (by decide) ?_
    refine ec_iadd hx hb d_W_328 ?_
    refine ec_sld (i := i + 2) hx hb hX hbl hbA hS (by omega) (by omega) d_W_329 ?_
    refine lv_if_eq (tgt := 337) hx hb d_W_330 rfl (fun h330 => ?_) (fun h330 => ?_)
    · refine lv_iconst (v := nI 0) hx hb d_W_337 (by decide) ?_
      refine ec_vQi (C := "ExactMesh") (ci := 4) (q := (R_X, T_X, 5)) (q0 := 0) (As := [.int (nI 0), .int (nI 0)]) (rest := []) ⟨hx, hb, hml, hown, htb⟩ (c_X_build l dC dI a cI cZ cJ pn px py ln lf lt lr sn sf st sr th hn qx qy mn mc mk mo mr (wR b cI cZ cJ pn px py ln lf lt hn qx qy rc w1 w2 w3 rg mn kc kf kp) 0 0 (¬ xs (i + 1) = 0) (¬ xs (i + 2) = 0) gS g3 (ec_isB.f0 (fun q => q h317)) (ec_isB.f0 (fun q => q h330)) A hD) kv_X_build hK hP rfl rfl rfl hS wd_245 ⟨Nat.le_of_ble_eq_true rfl, Nat.le_of_ble_eq_true rfl⟩ ⟨rfl, rfl⟩ rfl hl.1 rfl (Nat.le_of_ble_eq_true rfl) d_W_338 ⟨Nat.le_of_ble_eq_true rfl, Nat.le_of_ble_eq_true rfl⟩ (fun r338 ur338 H locs hr338 hP hS => ?_)
      replace hr338 : r338 = nI ur338.2.2.2.2.2.1 ∧ ec_BS pn px py ln lf lt hn qx qy (¬ xs (i + 1) = 0) (¬ xs (i + 2) = 0) ur338.2.2.2.2.2.1 ur338.2.2.2.2.2.2.1 ∧ ec_MI pn ur338.2.2.2.2.2.1 ur338.2.2.2.2.2.2.1 ur338.2.2.2.2.2.2.2.1 ur338.2.2.2.2.2.2.2.2.2 ∧ ∀ a b, a < 12 → b < 12 → ((ur338.2.2.2.2.2.2.2.2.2 a).testBit b = true ↔ ec_E ln lf lt a b) := hr338
      replace hP : va_P (dC, dI) vwCl (wX a cI cZ cJ pn px py ln lf lt lr ur338.1 ur338.2.1 ur338.2.2.1 ur338.2.2.2.1 ur338.2.2.2.2.1 hn qx qy ur338.2.2.2.2.2.1 ur338.2.2.2.2.2.2.1 ur338.2.2.2.2.2.2.2.2.1 ur338.2.2.2.2.2.2.2.1 ur338.2.2.2.2.2.2.2.2.2 ++ wR b cI cZ cJ pn px py ln lf lt hn qx qy rc w1 w2 w3 rg mn kc kf kp) H := hP
      replace hD : va_D A (wX a cI cZ cJ pn px py ln lf lt lr ur338.1 ur338.2.1 ur338.2.2.1 ur338.2.2.2.1 ur338.2.2.2.2.1 hn qx qy ur338.2.2.2.2.2.1 ur338.2.2.2.2.2.2.1 ur338.2.2.2.2.2.2.2.2.1 ur338.2.2.2.2.2.2.2.1 ur338.2.2.2.2.2.2.2.2.2 ++ wR b cI cZ cJ pn px py ln lf lt hn qx qy rc w1 w2 w3 rg mn kc kf kp) := ec_Dk hD rfl
      obtain ⟨T0, gF, hEn⟩ := hr338.2.1
      refine lv_aload_n hx hb d_W_341 rfl (lv_at hl 3 rfl) ?_
      refine lv_aload_n hx hb d_W_342 rfl (lv_at hl 1 rfl) ?_
      refine lv_iload_n hx hb d_W_343 rfl (lv_at hl 0 rfl) ?_
      refine lv_iconst (v := nI 1) hx hb d_W_344 (by decide) ?_
      refine ec_iadd hx hb d_W_345 ?_
      refine ec_sld (i := i + 1) hx hb hX hbl hbA hS (by omega) (by omega) d_W_346 ?_
      refine lv_if_eq (tgt := 354) hx hb d_W_347 rfl (fun h347 => ?_) (fun h347 => ?_)
      · refine lv_iconst (v := nI 0) hx hb d_W_354 (by decide) ?_
        refine lv_aload_n hx hb d_W_355 rfl (lv_at hl 1 rfl) ?_
        refine lv_iload_n hx hb d_W_356 rfl (lv_at hl 0 rfl) ?_
        refine lv_iconst (v := nI 2) hx hb d_W_357 (by decide) ?_
        refine ec_iadd hx hb d_W_358 ?_
        refine ec_sld (i := i + 2) hx hb hX hbl hbA hS (by omega) (by omega) d_W_359 ?_
        refine lv_if_eq (tgt := 367) hx hb d_W_360 rfl (fun h360 => ?_) (fun h360 => ?_)
        · refine lv_iconst (v := nI 0) hx hb d_W_367 (by decide) ?_
          replace hP : va_P (dC, dI) vwCl (wR b cI cZ cJ pn px py ln lf lt hn qx qy rc w1 w2 w3 rg mn kc kf kp ++ wX a cI cZ cJ pn px py ln lf lt lr ur338.1 ur338.2.1 ur338.2.2.1 ur338.2.2.2.1 ur338.2.2.2.2.1 hn qx qy ur338.2.2.2.2.2.1 ur338.2.2.2.2.2.2.1 ur338.2.2.2.2.2.2.2.2.1 ur338.2.2.2.2.2.2.2.1 ur338.2.2.2.2.2.2.2.2.2) H := ec_flipP hP
          replace hD : va_D A (wR b cI cZ cJ pn px py ln lf lt hn qx qy rc w1 w2 w3 rg mn kc kf kp ++ wX a cI cZ cJ pn px py ln lf lt lr ur338.1 ur338.2.1 ur338.2.2.1 ur338.2.2.2.1 ur338.2.2.2.2.1 hn qx qy ur338.2.2.2.2.2.1 ur338.2.2.2.2.2.2.1 ur338.2.2.2.2.2.2.2.2.1 ur338.2.2.2.2.2.2.2.1 ur338.2.2.2.2.2.2.2.2.2) := ec_flipD hD
          refine ec_vQi (C := "ExactMeshModel") (ci := 5) (q := (R_R, T_R, 18)) (q0 := 0) (As := [.int (nI 0), .int (nI 0)]) (rest := [.int r338]) ⟨hx, hb, hml, hown, htb⟩ (c_R_build l dC dI b cI cZ cJ pn px py ln lf lt hn qx qy rc w1 w2 w3 rg mn kc kf kp (wX a cI cZ cJ pn px py ln lf lt lr ur338.1 ur338.2.1 ur338.2.2.1 ur338.2.2.2.1 ur338.2.2.2.2.1 hn qx qy ur338.2.2.2.2.2.1 ur338.2.2.2.2.2.2.1 ur338.2.2.2.2.2.2.2.2.1 ur338.2.2.2.2.2.2.2.1 ur338.2.2.2.2.2.2.2.2.2) 0 0 lr T0 (¬ xs (i + 1) = 0) (¬ xs (i + 2) = 0) gS g3 gF (ec_isB.f0 (fun q => q h347)) (ec_isB.f0 (fun q => q h360)) A hD) kv_R_build hK hP rfl rfl rfl hS wd_574 ⟨Nat.le_of_ble_eq_true rfl, Nat.le_of_ble_eq_true rfl⟩ ⟨rfl, rfl⟩ rfl hl.1 rfl (Nat.le_of_ble_eq_true rfl) d_W_368 ⟨Nat.le_of_ble_eq_true rfl, Nat.le_of_ble_eq_true rfl⟩ (fun r368 ur368 H locs hr368 hP hS => ?_)
          replace hr368 : r368 = nI ur368.2.2.2.2.2.1 ∧ ec_En (ec_Kept T0 (ec_E ln lf lt) (ec_Sd T0 (ec_E ln lf lt) px py hn qx qy (¬ xs (i + 1) = 0) (¬ xs (i + 2) = 0))) ur368.2.2.2.2.2.1 ur368.2.2.2.2.2.2.1 144 ∧ ec_fx (ec_E ln lf lt) ur368.2.2.2.2.2.1 ur368.2.2.2.2.2.2.1 ur368.2.2.2.2.2.2.2.1 ∧ ur368.2.2.2.2.2.1 ≤ 19 ∧ ∀ i, i < 3 * ur368.2.2.2.2.2.1 → ur368.2.2.2.2.2.2.1 i < pn := hr368
          replace hP : va_P (dC, dI) vwCl (wR b cI cZ cJ pn px py ln lf lt hn qx qy ur368.1 ur368.2.1 ur368.2.2.1 ur368.2.2.2.1 ur368.2.2.2.2.1 ur368.2.2.2.2.2.1 ur368.2.2.2.2.2.2.1 ur368.2.2.2.2.2.2.2.1 ur368.2.2.2.2.2.2.2.2 ++ wX a cI cZ cJ pn px py ln lf lt lr ur338.1 ur338.2.1 ur338.2.2.1 ur338.2.2.2.1 ur338.2.2.2.2.1 hn qx qy ur338.2.2.2.2.2.1 ur338.2.2.2.2.2.2.1 ur338.2.2.2.2.2.2.2.2.1 ur338.2.2.2.2.2.2.2.1 ur338.2.2.2.2.2.2.2.2.2) H := hP
          replace hD : va_D A (wR b cI cZ cJ pn px py ln lf lt hn qx qy ur368.1 ur368.2.1 ur368.2.2.1 ur368.2.2.2.1 ur368.2.2.2.2.1 ur368.2.2.2.2.2.1 ur368.2.2.2.2.2.2.1 ur368.2.2.2.2.2.2.2.1 ur368.2.2.2.2.2.2.2.2 ++ wX a cI cZ cJ pn px py ln lf lt lr ur338.1 ur338.2.1 ur338.2.2.1 ur338.2.2.2.1 ur338.2.2.2.2.1 hn qx qy ur338.2.2.2.2.2.1 ur338.2.2.2.2.2.2.1 ur338.2.2.2.2.2.2.2.2.1 ur338.2.2.2.2.2.2.2.1 ur338.2.2.2.2.2.2.2.2.2) := ec_Dk hD rfl
          have hLB := ec_LR_build g12 hEn hr368.2.1 hr338.2.2.1 hr338.2.2.2 hr368.2.2.1
          refine lv_icmp_eq (tgt := 630) hx hb d_W_371 rfl (fun h371 => ?_) (fun h371 => ?_)
          · replace hP : va_P (dC, dI) vwCl (wX a cI cZ cJ pn px py ln lf lt lr ur338.1 ur338.2.1 ur338.2.2.1 ur338.2.2.2.1 ur338.2.2.2.2.1 hn qx qy ur338.2.2.2.2.2.1 ur338.2.2.2.2.2.2.1 ur338.2.2.2.2.2.2.2.2.1 ur338.2.2.2.2.2.2.2.1 ur338.2.2.2.2.2.2.2.2.2 ++ wR b cI cZ cJ pn px py ln lf lt hn qx qy ur368.1 ur368.2.1 ur368.2.2.1 ur368.2.2.2.1 ur368.2.2.2.2.1 ur368.2.2.2.2.2.1 ur368.2.2.2.2.2.2.1 ur368.2.2.2.2.2.2.2.1 ur368.2.2.2.2.2.2.2.2) H := ec_flipP hP
            replace hD : va_D A (wX a cI cZ cJ pn px py ln lf lt lr ur338.1 ur338.2.1 ur338.2.2.1 ur338.2.2.2.1 ur338.2.2.2.2.1 hn qx qy ur338.2.2.2.2.2.1 ur338.2.2.2.2.2.2.1 ur338.2.2.2.2.2.2.2.2.1 ur338.2.2.2.2.2.2.2.1 ur338.2.2.2.2.2.2.2.2.2 ++ wR b cI cZ cJ pn px py ln lf lt hn qx qy ur368.1 ur368.2.1 ur368.2.2.1 ur368.2.2.2.1 ur368.2.2.2.2.1 ur368.2.2.2.2.2.1 ur368.2.2.2.2.2.2.1 ur368.2.2.2.2.2.2.2.1 ur368.2.2.2.2.2.2.2.2) := ec_flipD hD
            exact kk H locs ⟨pn, px, py, ln, lf, lt, lr, ur338.1, ur338.2.1, ur338.2.2.1, ur338.2.2.2.1, ur338.2.2.2.2.1, hn, qx, qy, ur338.2.2.2.2.2.1, ur338.2.2.2.2.2.2.1, ur338.2.2.2.2.2.2.2.2.1, ur338.2.2.2.2.2.2.2.1, ur338.2.2.2.2.2.2.2.2.2, ur368.1, ur368.2.1, ur368.2.2.1, ur368.2.2.2.1, ur368.2.2.2.2.1, ur368.2.2.2.2.2.1, ur368.2.2.2.2.2.2.1, ur368.2.2.2.2.2.2.2.1, ur368.2.2.2.2.2.2.2.2, gS, g3, hr338.2.2.1, hLB.2, hLB.1, hP, hD, hS⟩
          · exact absurd ((by rw [hr338.1, hr368.1, hLB.1])) h371
        · exact absurd h330 h360
      · exact absurd h317 h347
    · refine lv_iconst (v := nI 1) hx hb d_W_333 (by decide) ?_
      refine lv_goto (tgt := 338) hx hb d_W_334 rfl ?_
      refine ec_vQi (C := "ExactMesh") (ci := 4) (q := (R_X, T_X, 5)) (q0 := 0) (As := [.int (nI 0), .int (nI 1)]) (rest := []) ⟨hx, hb, hml, hown, htb⟩ (c_X_build l dC dI a cI cZ cJ pn px py ln lf lt lr sn sf st sr th hn qx qy mn mc mk mo mr (wR b cI cZ cJ pn px py ln lf lt hn qx qy rc w1 w2 w3 rg mn kc kf kp) 0 1 (¬ xs (i + 1) = 0) (¬ xs (i + 2) = 0) gS g3 (ec_isB.f0 (fun q => q h317)) (ec_isB.t1 h330) A hD) kv_X_build hK hP rfl rfl rfl hS wd_245 ⟨Nat.le_of_ble_eq_true rfl, Nat.le_of_ble_eq_true rfl⟩ ⟨rfl, rfl⟩ rfl hl.1 rfl (Nat.le_of_ble_eq_true rfl) d_W_338 ⟨Nat.le_of_ble_eq_true rfl, Nat.le_of_ble_eq_true rfl⟩ (fun r338_1 ur338_1 H locs hr338_1 hP hS => ?_)
      replace hr338_1 : r338_1 = nI ur338_1.2.2.2.2.2.1 ∧ ec_BS pn px py ln lf lt hn qx qy (¬ xs (i + 1) = 0) (¬ xs (i + 2) = 0) ur338_1.2.2.2.2.2.1 ur338_1.2.2.2.2.2.2.1 ∧ ec_MI pn ur338_1.2.2.2.2.2.1 ur338_1.2.2.2.2.2.2.1 ur338_1.2.2.2.2.2.2.2.1 ur338_1.2.2.2.2.2.2.2.2.2 ∧ ∀ a b, a < 12 → b < 12 → ((ur338_1.2.2.2.2.2.2.2.2.2 a).testBit b = true ↔ ec_E ln lf lt a b) := hr338_1
      replace hP : va_P (dC, dI) vwCl (wX a cI cZ cJ pn px py ln lf lt lr ur338_1.1 ur338_1.2.1 ur338_1.2.2.1 ur338_1.2.2.2.1 ur338_1.2.2.2.2.1 hn qx qy ur338_1.2.2.2.2.2.1 ur338_1.2.2.2.2.2.2.1 ur338_1.2.2.2.2.2.2.2.2.1 ur338_1.2.2.2.2.2.2.2.1 ur338_1.2.2.2.2.2.2.2.2.2 ++ wR b cI cZ cJ pn px py ln lf lt hn qx qy rc w1 w2 w3 rg mn kc kf kp) H := hP
      replace hD : va_D A (wX a cI cZ cJ pn px py ln lf lt lr ur338_1.1 ur338_1.2.1 ur338_1.2.2.1 ur338_1.2.2.2.1 ur338_1.2.2.2.2.1 hn qx qy ur338_1.2.2.2.2.2.1 ur338_1.2.2.2.2.2.2.1 ur338_1.2.2.2.2.2.2.2.2.1 ur338_1.2.2.2.2.2.2.2.1 ur338_1.2.2.2.2.2.2.2.2.2 ++ wR b cI cZ cJ pn px py ln lf lt hn qx qy rc w1 w2 w3 rg mn kc kf kp) := ec_Dk hD rfl
      obtain ⟨T0, gF, hEn⟩ := hr338_1.2.1
      refine lv_aload_n hx hb d_W_341 rfl (lv_at hl 3 rfl) ?_
      refine lv_aload_n hx hb d_W_342 rfl (lv_at hl 1 rfl) ?_
      refine lv_iload_n hx hb d_W_343 rfl (lv_at hl 0 rfl) ?_
      refine lv_iconst (v := nI 1) hx hb d_W_344 (by decide) ?_
      refine ec_iadd hx hb d_W_345 ?_
      refine ec_sld (i := i + 1) hx hb hX hbl hbA hS (by omega) (by omega) d_W_346 ?_
      refine lv_if_eq (tgt := 354) hx hb d_W_347 rfl (fun h347_1 => ?_) (fun h347_1 => ?_)
      · refine lv_iconst (v := nI 0) hx hb d_W_354 (by decide) ?_
        refine lv_aload_n hx hb d_W_355 rfl (lv_at hl 1 rfl) ?_
        refine lv_iload_n hx hb d_W_356 rfl (lv_at hl 0 rfl) ?_
        refine lv_iconst (v := nI 2) hx hb d_W_357 (by decide) ?_
        refine ec_iadd hx hb d_W_358 ?_
        refine ec_sld (i := i + 2) hx hb hX hbl hbA hS (by omega) (by omega) d_W_359 ?_
        refine lv_if_eq (tgt := 367) hx hb d_W_360 rfl (fun h360_1 => ?_) (fun h360_1 => ?_)
        · exact absurd h360_1 h330
        · refine lv_iconst (v := nI 1) hx hb d_W_363 (by decide) ?_
          refine lv_goto (tgt := 368) hx hb d_W_364 rfl ?_
          replace hP : va_P (dC, dI) vwCl (wR b cI cZ cJ pn px py ln lf lt hn qx qy rc w1 w2 w3 rg mn kc kf kp ++ wX a cI cZ cJ pn px py ln lf lt lr ur338_1.1 ur338_1.2.1 ur338_1.2.2.1 ur338_1.2.2.2.1 ur338_1.2.2.2.2.1 hn qx qy ur338_1.2.2.2.2.2.1 ur338_1.2.2.2.2.2.2.1 ur338_1.2.2.2.2.2.2.2.2.1 ur338_1.2.2.2.2.2.2.2.1 ur338_1.2.2.2.2.2.2.2.2.2) H := ec_flipP hP
          replace hD : va_D A (wR b cI cZ cJ pn px py ln lf lt hn qx qy rc w1 w2 w3 rg mn kc kf kp ++ wX a cI cZ cJ pn px py ln lf lt lr ur338_1.1 ur338_1.2.1 ur338_1.2.2.1 ur338_1.2.2.2.1 ur338_1.2.2.2.2.1 hn qx qy ur338_1.2.2.2.2.2.1 ur338_1.2.2.2.2.2.2.1 ur338_1.2.2.2.2.2.2.2.2.1 ur338_1.2.2.2.2.2.2.2.1 ur338_1.2.2.2.2.2.2.2.2.2) := ec_flipD hD
          refine ec_vQi (C := "ExactMeshModel") (ci := 5) (q := (R_R, T_R, 18)) (q0 := 0) (As := [.int (nI 0), .int (nI 1)]) (rest := [.int r338_1]) ⟨hx, hb, hml, hown, htb⟩ (c_R_build l dC dI b cI cZ cJ pn px py ln lf lt hn qx qy rc w1 w2 w3 rg mn kc kf kp (wX a cI cZ cJ pn px py ln lf lt lr ur338_1.1 ur338_1.2.1 ur338_1.2.2.1 ur338_1.2.2.2.1 ur338_1.2.2.2.2.1 hn qx qy ur338_1.2.2.2.2.2.1 ur338_1.2.2.2.2.2.2.1 ur338_1.2.2.2.2.2.2.2.2.1 ur338_1.2.2.2.2.2.2.2.1 ur338_1.2.2.2.2.2.2.2.2.2) 0 1 lr T0 (¬ xs (i + 1) = 0) (¬ xs (i + 2) = 0) gS g3 gF (ec_isB.f0 (fun q => q h347_1)) (ec_isB.t1 h360_1) A hD) kv_R_build hK hP rfl rfl rfl hS wd_574 ⟨Nat.le_of_ble_eq_true rfl, Nat.le_of_ble_eq_true rfl⟩ ⟨rfl, rfl⟩ rfl hl.1 rfl (Nat.le_of_ble_eq_true rfl) d_W_368 ⟨Nat.le_of_ble_eq_true rfl, Nat.le_of_ble_eq_true rfl⟩ (fun r368_1 ur368_1 H locs hr368_1 hP hS => ?_)
          replace hr368_1 : r368_1 = nI ur368_1.2.2.2.2.2.1 ∧ ec_En (ec_Kept T0 (ec_E ln lf lt) (ec_Sd T0 (ec_E ln lf lt) px py hn qx qy (¬ xs (i + 1) = 0) (¬ xs (i + 2) = 0))) ur368_1.2.2.2.2.2.1 ur368_1.2.2.2.2.2.2.1 144 ∧ ec_fx (ec_E ln lf lt) ur368_1.2.2.2.2.2.1 ur368_1.2.2.2.2.2.2.1 ur368_1.2.2.2.2.2.2.2.1 ∧ ur368_1.2.2.2.2.2.1 ≤ 19 ∧ ∀ i, i < 3 * ur368_1.2.2.2.2.2.1 → ur368_1.2.2.2.2.2.2.1 i < pn := hr368_1
          replace hP : va_P (dC, dI) vwCl (wR b cI cZ cJ pn px py ln lf lt hn qx qy ur368_1.1 ur368_1.2.1 ur368_1.2.2.1 ur368_1.2.2.2.1 ur368_1.2.2.2.2.1 ur368_1.2.2.2.2.2.1 ur368_1.2.2.2.2.2.2.1 ur368_1.2.2.2.2.2.2.2.1 ur368_1.2.2.2.2.2.2.2.2 ++ wX a cI cZ cJ pn px py ln lf lt lr ur338_1.1 ur338_1.2.1 ur338_1.2.2.1 ur338_1.2.2.2.1 ur338_1.2.2.2.2.1 hn qx qy ur338_1.2.2.2.2.2.1 ur338_1.2.2.2.2.2.2.1 ur338_1.2.2.2.2.2.2.2.2.1 ur338_1.2.2.2.2.2.2.2.1 ur338_1.2.2.2.2.2.2.2.2.2) H := hP
          replace hD : va_D A (wR b cI cZ cJ pn px py ln lf lt hn qx qy ur368_1.1 ur368_1.2.1 ur368_1.2.2.1 ur368_1.2.2.2.1 ur368_1.2.2.2.2.1 ur368_1.2.2.2.2.2.1 ur368_1.2.2.2.2.2.2.1 ur368_1.2.2.2.2.2.2.2.1 ur368_1.2.2.2.2.2.2.2.2 ++ wX a cI cZ cJ pn px py ln lf lt lr ur338_1.1 ur338_1.2.1 ur338_1.2.2.1 ur338_1.2.2.2.1 ur338_1.2.2.2.2.1 hn qx qy ur338_1.2.2.2.2.2.1 ur338_1.2.2.2.2.2.2.1 ur338_1.2.2.2.2.2.2.2.2.1 ur338_1.2.2.2.2.2.2.2.1 ur338_1.2.2.2.2.2.2.2.2.2) := ec_Dk hD rfl
          have hLB := ec_LR_build g12 hEn hr368_1.2.1 hr338_1.2.2.1 hr338_1.2.2.2 hr368_1.2.2.1
          refine lv_icmp_eq (tgt := 630) hx hb d_W_371 rfl (fun h371_1 => ?_) (fun h371_1 => ?_)
          · replace hP : va_P (dC, dI) vwCl (wX a cI cZ cJ pn px py ln lf lt lr ur338_1.1 ur338_1.2.1 ur338_1.2.2.1 ur338_1.2.2.2.1 ur338_1.2.2.2.2.1 hn qx qy ur338_1.2.2.2.2.2.1 ur338_1.2.2.2.2.2.2.1 ur338_1.2.2.2.2.2.2.2.2.1 ur338_1.2.2.2.2.2.2.2.1 ur338_1.2.2.2.2.2.2.2.2.2 ++ wR b cI cZ cJ pn px py ln lf lt hn qx qy ur368_1.1 ur368_1.2.1 ur368_1.2.2.1 ur368_1.2.2.2.1 ur368_1.2.2.2.2.1 ur368_1.2.2.2.2.2.1 ur368_1.2.2.2.2.2.2.1 ur368_1.2.2.2.2.2.2.2.1 ur368_1.2.2.2.2.2.2.2.2) H := ec_flipP hP
            replace hD : va_D A (wX a cI cZ cJ pn px py ln lf lt lr ur338_1.1 ur338_1.2.1 ur338_1.2.2.1 ur338_1.2.2.2.1 ur338_1.2.2.2.2.1 hn qx qy ur338_1.2.2.2.2.2.1 ur338_1.2.2.2.2.2.2.1 ur338_1.2.2.2.2.2.2.2.2.1 ur338_1.2.2.2.2.2.2.2.1 ur338_1.2.2.2.2.2.2.2.2.2 ++ wR b cI cZ cJ pn px py ln lf lt hn qx qy ur368_1.1 ur368_1.2.1 ur368_1.2.2.1 ur368_1.2.2.2.1 ur368_1.2.2.2.2.1 ur368_1.2.2.2.2.2.1 ur368_1.2.2.2.2.2.2.1 ur368_1.2.2.2.2.2.2.2.1 ur368_1.2.2.2.2.2.2.2.2) := ec_flipD hD
            exact kk H locs ⟨pn, px, py, ln, lf, lt, lr, ur338_1.1, ur338_1.2.1, ur338_1.2.2.1, ur338_1.2.2.2.1, ur338_1.2.2.2.2.1, hn, qx, qy, ur338_1.2.2.2.2.2.1, ur338_1.2.2.2.2.2.2.1, ur338_1.2.2.2.2.2.2.2.2.1, ur338_1.2.2.2.2.2.2.2.1, ur338_1.2.2.2.2.2.2.2.2.2, ur368_1.1, ur368_1.2.1, ur368_1.2.2.1, ur368_1.2.2.2.1, ur368_1.2.2.2.2.1, ur368_1.2.2.2.2.2.1, ur368_1.2.2.2.2.2.2.1, ur368_1.2.2.2.2.2.2.2.1, ur368_1.2.2.2.2.2.2.2.2, gS, g3, hr338_1.2.2.1, hLB.2, hLB.1, hP, hD, hS⟩
          · exact absurd ((by rw [hr338_1.1, hr368_1.1, hLB.1])) h371_1
      · exact absurd h317 h347_1
  · refine lv_iconst (v := nI 1) hx hb d_W_320 (by decide) ?_
    refine lv_goto (tgt := 325) hx hb d_W_321 rfl ?_
    refine lv_aload_n hx hb d_W_325 rfl (lv_at hl 1 rfl) ?_
    refine lv_iload_n hx hb d_W_326 rfl (lv_at hl 0 rfl) ?_
    refine lv_iconst (v := nI 2) hx hb d_W_327 (by decide) ?_
    refine ec_iadd hx hb d_W_328 ?_
    refine ec_sld (i := i + 2) hx hb hX hbl hbA hS (by omega) (by omega) d_W_329 ?_
    refine lv_if_eq (tgt := 337) hx hb d_W_330 rfl (fun h330_1 => ?_) (fun h330_1 => ?_)
    · refine lv_iconst (v := nI 0) hx hb d_W_337 (by decide) ?_
      refine ec_vQi (C := "ExactMesh") (ci := 4) (q := (R_X, T_X, 5)) (q0 := 0) (As := [.int (nI 1), .int (nI 0)]) (rest := []) ⟨hx, hb, hml, hown, htb⟩ (c_X_build l dC dI a cI cZ cJ pn px py ln lf lt lr sn sf st sr th hn qx qy mn mc mk mo mr (wR b cI cZ cJ pn px py ln lf lt hn qx qy rc w1 w2 w3 rg mn kc kf kp) 1 0 (¬ xs (i + 1) = 0) (¬ xs (i + 2) = 0) gS g3 (ec_isB.t1 h317) (ec_isB.f0 (fun q => q h330_1)) A hD) kv_X_build hK hP rfl rfl rfl hS wd_245 ⟨Nat.le_of_ble_eq_true rfl, Nat.le_of_ble_eq_true rfl⟩ ⟨rfl, rfl⟩ rfl hl.1 rfl (Nat.le_of_ble_eq_true rfl) d_W_338 ⟨Nat.le_of_ble_eq_true rfl, Nat.le_of_ble_eq_true rfl⟩ (fun r338_2 ur338_2 H locs hr338_2 hP hS => ?_)
      replace hr338_2 : r338_2 = nI ur338_2.2.2.2.2.2.1 ∧ ec_BS pn px py ln lf lt hn qx qy (¬ xs (i + 1) = 0) (¬ xs (i + 2) = 0) ur338_2.2.2.2.2.2.1 ur338_2.2.2.2.2.2.2.1 ∧ ec_MI pn ur338_2.2.2.2.2.2.1 ur338_2.2.2.2.2.2.2.1 ur338_2.2.2.2.2.2.2.2.1 ur338_2.2.2.2.2.2.2.2.2.2 ∧ ∀ a b, a < 12 → b < 12 → ((ur338_2.2.2.2.2.2.2.2.2.2 a).testBit b = true ↔ ec_E ln lf lt a b) := hr338_2
      replace hP : va_P (dC, dI) vwCl (wX a cI cZ cJ pn px py ln lf lt lr ur338_2.1 ur338_2.2.1 ur338_2.2.2.1 ur338_2.2.2.2.1 ur338_2.2.2.2.2.1 hn qx qy ur338_2.2.2.2.2.2.1 ur338_2.2.2.2.2.2.2.1 ur338_2.2.2.2.2.2.2.2.2.1 ur338_2.2.2.2.2.2.2.2.1 ur338_2.2.2.2.2.2.2.2.2.2 ++ wR b cI cZ cJ pn px py ln lf lt hn qx qy rc w1 w2 w3 rg mn kc kf kp) H := hP
      replace hD : va_D A (wX a cI cZ cJ pn px py ln lf lt lr ur338_2.1 ur338_2.2.1 ur338_2.2.2.1 ur338_2.2.2.2.1 ur338_2.2.2.2.2.1 hn qx qy ur338_2.2.2.2.2.2.1 ur338_2.2.2.2.2.2.2.1 ur338_2.2.2.2.2.2.2.2.2.1 ur338_2.2.2.2.2.2.2.2.1 ur338_2.2.2.2.2.2.2.2.2.2 ++ wR b cI cZ cJ pn px py ln lf lt hn qx qy rc w1 w2 w3 rg mn kc kf kp) := ec_Dk hD rfl
      obtain ⟨T0, gF, hEn⟩ := hr338_2.2.1
      refine lv_aload_n hx hb d_W_341 rfl (lv_at hl 3 rfl) ?_
      refine lv_aload_n hx hb d_W_342 rfl (lv_at hl 1 rfl) ?_
      refine lv_iload_n hx hb d_W_343 rfl (lv_at hl 0 rfl) ?_
      refine lv_iconst (v := nI 1) hx hb d_W_344 (by decide) ?_
      refine ec_iadd hx hb d_W_345 ?_
      refine ec_sld (i := i + 1) hx hb hX hbl hbA hS (by omega) (by omega) d_W_346 ?_
      refine lv_if_eq (tgt := 354) hx hb d_W_347 rfl (fun h347_2 => ?_) (fun h347_2 => ?_)
      · exact absurd h347_2 h317
      · refine lv_iconst (v := nI 1) hx hb d_W_350 (by decide) ?_
        refine lv_goto (tgt := 355) hx hb d_W_351 rfl ?_
        refine lv_aload_n hx hb d_W_355 rfl (lv_at hl 1 rfl) ?_
        refine lv_iload_n hx hb d_W_356 rfl (lv_at hl 0 rfl) ?_
        refine lv_iconst (v := nI 2) hx hb d_W_357 (by decide) ?_
        refine ec_iadd hx hb d_W_358 ?_
        refine ec_sld (i := i + 2) hx hb hX hbl hbA hS (by omega) (by omega) d_W_359 ?_
        refine lv_if_eq (tgt := 367) hx hb d_W_360 rfl (fun h360_2 => ?_) (fun h360_2 => ?_)
        · refine lv_iconst (v := nI 0) hx hb d_W_367 (by decide) ?_
          replace hP : va_P (dC, dI) vwCl (wR b cI cZ cJ pn px py ln lf lt hn qx qy rc w1 w2 w3 rg mn kc kf kp ++ wX a cI cZ cJ pn px py ln lf lt lr ur338_2.1 ur338_2.2.1 ur338_2.2.2.1 ur338_2.2.2.2.1 ur338_2.2.2.2.2.1 hn qx qy ur338_2.2.2.2.2.2.1 ur338_2.2.2.2.2.2.2.1 ur338_2.2.2.2.2.2.2.2.2.1 ur338_2.2.2.2.2.2.2.2.1 ur338_2.2.2.2.2.2.2.2.2.2) H := ec_flipP hP
          replace hD : va_D A (wR b cI cZ cJ pn px py ln lf lt hn qx qy rc w1 w2 w3 rg mn kc kf kp ++ wX a cI cZ cJ pn px py ln lf lt lr ur338_2.1 ur338_2.2.1 ur338_2.2.2.1 ur338_2.2.2.2.1 ur338_2.2.2.2.2.1 hn qx qy ur338_2.2.2.2.2.2.1 ur338_2.2.2.2.2.2.2.1 ur338_2.2.2.2.2.2.2.2.2.1 ur338_2.2.2.2.2.2.2.2.1 ur338_2.2.2.2.2.2.2.2.2.2) := ec_flipD hD
          refine ec_vQi (C := "ExactMeshModel") (ci := 5) (q := (R_R, T_R, 18)) (q0 := 0) (As := [.int (nI 1), .int (nI 0)]) (rest := [.int r338_2]) ⟨hx, hb, hml, hown, htb⟩ (c_R_build l dC dI b cI cZ cJ pn px py ln lf lt hn qx qy rc w1 w2 w3 rg mn kc kf kp (wX a cI cZ cJ pn px py ln lf lt lr ur338_2.1 ur338_2.2.1 ur338_2.2.2.1 ur338_2.2.2.2.1 ur338_2.2.2.2.2.1 hn qx qy ur338_2.2.2.2.2.2.1 ur338_2.2.2.2.2.2.2.1 ur338_2.2.2.2.2.2.2.2.2.1 ur338_2.2.2.2.2.2.2.2.1 ur338_2.2.2.2.2.2.2.2.2.2) 1 0 lr T0 (¬ xs (i + 1) = 0) (¬ xs (i + 2) = 0) gS g3 gF (ec_isB.t1 h347_2) (ec_isB.f0 (fun q => q h360_2)) A hD) kv_R_build hK hP rfl rfl rfl hS wd_574 ⟨Nat.le_of_ble_eq_true rfl, Nat.le_of_ble_eq_true rfl⟩ ⟨rfl, rfl⟩ rfl hl.1 rfl (Nat.le_of_ble_eq_true rfl) d_W_368 ⟨Nat.le_of_ble_eq_true rfl, Nat.le_of_ble_eq_true rfl⟩ (fun r368_2 ur368_2 H locs hr368_2 hP hS => ?_)
          replace hr368_2 : r368_2 = nI ur368_2.2.2.2.2.2.1 ∧ ec_En (ec_Kept T0 (ec_E ln lf lt) (ec_Sd T0 (ec_E ln lf lt) px py hn qx qy (¬ xs (i + 1) = 0) (¬ xs (i + 2) = 0))) ur368_2.2.2.2.2.2.1 ur368_2.2.2.2.2.2.2.1 144 ∧ ec_fx (ec_E ln lf lt) ur368_2.2.2.2.2.2.1 ur368_2.2.2.2.2.2.2.1 ur368_2.2.2.2.2.2.2.2.1 ∧ ur368_2.2.2.2.2.2.1 ≤ 19 ∧ ∀ i, i < 3 * ur368_2.2.2.2.2.2.1 → ur368_2.2.2.2.2.2.2.1 i < pn := hr368_2
          replace hP : va_P (dC, dI) vwCl (wR b cI cZ cJ pn px py ln lf lt hn qx qy ur368_2.1 ur368_2.2.1 ur368_2.2.2.1 ur368_2.2.2.2.1 ur368_2.2.2.2.2.1 ur368_2.2.2.2.2.2.1 ur368_2.2.2.2.2.2.2.1 ur368_2.2.2.2.2.2.2.2.1 ur368_2.2.2.2.2.2.2.2.2 ++ wX a cI cZ cJ pn px py ln lf lt lr ur338_2.1 ur338_2.2.1 ur338_2.2.2.1 ur338_2.2.2.2.1 ur338_2.2.2.2.2.1 hn qx qy ur338_2.2.2.2.2.2.1 ur338_2.2.2.2.2.2.2.1 ur338_2.2.2.2.2.2.2.2.2.1 ur338_2.2.2.2.2.2.2.2.1 ur338_2.2.2.2.2.2.2.2.2.2) H := hP
          replace hD : va_D A (wR b cI cZ cJ pn px py ln lf lt hn qx qy ur368_2.1 ur368_2.2.1 ur368_2.2.2.1 ur368_2.2.2.2.1 ur368_2.2.2.2.2.1 ur368_2.2.2.2.2.2.1 ur368_2.2.2.2.2.2.2.1 ur368_2.2.2.2.2.2.2.2.1 ur368_2.2.2.2.2.2.2.2.2 ++ wX a cI cZ cJ pn px py ln lf lt lr ur338_2.1 ur338_2.2.1 ur338_2.2.2.1 ur338_2.2.2.2.1 ur338_2.2.2.2.2.1 hn qx qy ur338_2.2.2.2.2.2.1 ur338_2.2.2.2.2.2.2.1 ur338_2.2.2.2.2.2.2.2.2.1 ur338_2.2.2.2.2.2.2.2.1 ur338_2.2.2.2.2.2.2.2.2.2) := ec_Dk hD rfl
          have hLB := ec_LR_build g12 hEn hr368_2.2.1 hr338_2.2.2.1 hr338_2.2.2.2 hr368_2.2.2.1
          refine lv_icmp_eq (tgt := 630) hx hb d_W_371 rfl (fun h371_2 => ?_) (fun h371_2 => ?_)
          · replace hP : va_P (dC, dI) vwCl (wX a cI cZ cJ pn px py ln lf lt lr ur338_2.1 ur338_2.2.1 ur338_2.2.2.1 ur338_2.2.2.2.1 ur338_2.2.2.2.2.1 hn qx qy ur338_2.2.2.2.2.2.1 ur338_2.2.2.2.2.2.2.1 ur338_2.2.2.2.2.2.2.2.2.1 ur338_2.2.2.2.2.2.2.2.1 ur338_2.2.2.2.2.2.2.2.2.2 ++ wR b cI cZ cJ pn px py ln lf lt hn qx qy ur368_2.1 ur368_2.2.1 ur368_2.2.2.1 ur368_2.2.2.2.1 ur368_2.2.2.2.2.1 ur368_2.2.2.2.2.2.1 ur368_2.2.2.2.2.2.2.1 ur368_2.2.2.2.2.2.2.2.1 ur368_2.2.2.2.2.2.2.2.2) H := ec_flipP hP
            replace hD : va_D A (wX a cI cZ cJ pn px py ln lf lt lr ur338_2.1 ur338_2.2.1 ur338_2.2.2.1 ur338_2.2.2.2.1 ur338_2.2.2.2.2.1 hn qx qy ur338_2.2.2.2.2.2.1 ur338_2.2.2.2.2.2.2.1 ur338_2.2.2.2.2.2.2.2.2.1 ur338_2.2.2.2.2.2.2.2.1 ur338_2.2.2.2.2.2.2.2.2.2 ++ wR b cI cZ cJ pn px py ln lf lt hn qx qy ur368_2.1 ur368_2.2.1 ur368_2.2.2.1 ur368_2.2.2.2.1 ur368_2.2.2.2.2.1 ur368_2.2.2.2.2.2.1 ur368_2.2.2.2.2.2.2.1 ur368_2.2.2.2.2.2.2.2.1 ur368_2.2.2.2.2.2.2.2.2) := ec_flipD hD
            exact kk H locs ⟨pn, px, py, ln, lf, lt, lr, ur338_2.1, ur338_2.2.1, ur338_2.2.2.1, ur338_2.2.2.2.1, ur338_2.2.2.2.2.1, hn, qx, qy, ur338_2.2.2.2.2.2.1, ur338_2.2.2.2.2.2.2.1, ur338_2.2.2.2.2.2.2.2.2.1, ur338_2.2.2.2.2.2.2.2.1, ur338_2.2.2.2.2.2.2.2.2.2, ur368_2.1, ur368_2.2.1, ur368_2.2.2.1, ur368_2.2.2.2.1, ur368_2.2.2.2.2.1, ur368_2.2.2.2.2.2.1, ur368_2.2.2.2.2.2.2.1, ur368_2.2.2.2.2.2.2.2.1, ur368_2.2.2.2.2.2.2.2.2, gS, g3, hr338_2.2.2.1, hLB.2, hLB.1, hP, hD, hS⟩
          · exact absurd ((by rw [hr338_2.1, hr368_2.1, hLB.1])) h371_2
        · exact absurd h330_1 h360_2
    · refine lv_iconst (v := nI 1) hx hb d_W_333 (by decide) ?_
      refine lv_goto (tgt := 338) hx hb d_W_334 rfl ?_
      refine ec_vQi (C := "ExactMesh") (ci := 4) (q := (R_X, T_X, 5)) (q0 := 0) (As := [.int (nI 1), .int (nI 1)]) (rest := []) ⟨hx, hb, hml, hown, htb⟩ (c_X_build l dC dI a cI cZ cJ pn px py ln lf lt lr sn sf st sr th hn qx qy mn mc mk mo mr (wR b cI cZ cJ pn px py ln lf lt hn qx qy rc w1 w2 w3 rg mn kc kf kp) 1 1 (¬ xs (i + 1) = 0) (¬ xs (i + 2) = 0) gS g3 (ec_isB.t1 h317) (ec_isB.t1 h330_1) A hD) kv_X_build hK hP rfl rfl rfl hS wd_245 ⟨Nat.le_of_ble_eq_true rfl, Nat.le_of_ble_eq_true rfl⟩ ⟨rfl, rfl⟩ rfl hl.1 rfl (Nat.le_of_ble_eq_true rfl) d_W_338 ⟨Nat.le_of_ble_eq_true rfl, Nat.le_of_ble_eq_true rfl⟩ (fun r338_3 ur338_3 H locs hr338_3 hP hS => ?_)
      replace hr338_3 : r338_3 = nI ur338_3.2.2.2.2.2.1 ∧ ec_BS pn px py ln lf lt hn qx qy (¬ xs (i + 1) = 0) (¬ xs (i + 2) = 0) ur338_3.2.2.2.2.2.1 ur338_3.2.2.2.2.2.2.1 ∧ ec_MI pn ur338_3.2.2.2.2.2.1 ur338_3.2.2.2.2.2.2.1 ur338_3.2.2.2.2.2.2.2.1 ur338_3.2.2.2.2.2.2.2.2.2 ∧ ∀ a b, a < 12 → b < 12 → ((ur338_3.2.2.2.2.2.2.2.2.2 a).testBit b = true ↔ ec_E ln lf lt a b) := hr338_3
      replace hP : va_P (dC, dI) vwCl (wX a cI cZ cJ pn px py ln lf lt lr ur338_3.1 ur338_3.2.1 ur338_3.2.2.1 ur338_3.2.2.2.1 ur338_3.2.2.2.2.1 hn qx qy ur338_3.2.2.2.2.2.1 ur338_3.2.2.2.2.2.2.1 ur338_3.2.2.2.2.2.2.2.2.1 ur338_3.2.2.2.2.2.2.2.1 ur338_3.2.2.2.2.2.2.2.2.2 ++ wR b cI cZ cJ pn px py ln lf lt hn qx qy rc w1 w2 w3 rg mn kc kf kp) H := hP
      replace hD : va_D A (wX a cI cZ cJ pn px py ln lf lt lr ur338_3.1 ur338_3.2.1 ur338_3.2.2.1 ur338_3.2.2.2.1 ur338_3.2.2.2.2.1 hn qx qy ur338_3.2.2.2.2.2.1 ur338_3.2.2.2.2.2.2.1 ur338_3.2.2.2.2.2.2.2.2.1 ur338_3.2.2.2.2.2.2.2.1 ur338_3.2.2.2.2.2.2.2.2.2 ++ wR b cI cZ cJ pn px py ln lf lt hn qx qy rc w1 w2 w3 rg mn kc kf kp) := ec_Dk hD rfl
      obtain ⟨T0, gF, hEn⟩ := hr338_3.2.1
      refine lv_aload_n hx hb d_W_341 rfl (lv_at hl 3 rfl) ?_
      refine lv_aload_n hx hb d_W_342 rfl (lv_at hl 1 rfl) ?_
      refine lv_iload_n hx hb d_W_343 rfl (lv_at hl 0 rfl) ?_
      refine lv_iconst (v := nI 1) hx hb d_W_344 (by decide) ?_
      refine ec_iadd hx hb d_W_345 ?_
      refine ec_sld (i := i + 1) hx hb hX hbl hbA hS (by omega) (by omega) d_W_346 ?_
      refine lv_if_eq (tgt := 354) hx hb d_W_347 rfl (fun h347_3 => ?_) (fun h347_3 => ?_)
      · exact absurd h347_3 h317
      · refine lv_iconst (v := nI 1) hx hb d_W_350 (by decide) ?_
        refine lv_goto (tgt := 355) hx hb d_W_351 rfl ?_
        refine lv_aload_n hx hb d_W_355 rfl (lv_at hl 1 rfl) ?_
        refine lv_iload_n hx hb d_W_356 rfl (lv_at hl 0 rfl) ?_
        refine lv_iconst (v := nI 2) hx hb d_W_357 (by decide) ?_
        refine ec_iadd hx hb d_W_358 ?_
        refine ec_sld (i := i + 2) hx hb hX hbl hbA hS (by omega) (by omega) d_W_359 ?_
        refine lv_if_eq (tgt := 367) hx hb d_W_360 rfl (fun h360_3 => ?_) (fun h360_3 => ?_)
        · exact absurd h360_3 h330_1
        · refine lv_iconst (v := nI 1) hx hb d_W_363 (by decide) ?_
          refine lv_goto (tgt := 368) hx hb d_W_364 rfl ?_
          replace hP : va_P (dC, dI) vwCl (wR b cI cZ cJ pn px py ln lf lt hn qx qy rc w1 w2 w3 rg mn kc kf kp ++ wX a cI cZ cJ pn px py ln lf lt lr ur338_3.1 ur338_3.2.1 ur338_3.2.2.1 ur338_3.2.2.2.1 ur338_3.2.2.2.2.1 hn qx qy ur338_3.2.2.2.2.2.1 ur338_3.2.2.2.2.2.2.1 ur338_3.2.2.2.2.2.2.2.2.1 ur338_3.2.2.2.2.2.2.2.1 ur338_3.2.2.2.2.2.2.2.2.2) H := ec_flipP hP
          replace hD : va_D A (wR b cI cZ cJ pn px py ln lf lt hn qx qy rc w1 w2 w3 rg mn kc kf kp ++ wX a cI cZ cJ pn px py ln lf lt lr ur338_3.1 ur338_3.2.1 ur338_3.2.2.1 ur338_3.2.2.2.1 ur338_3.2.2.2.2.1 hn qx qy ur338_3.2.2.2.2.2.1 ur338_3.2.2.2.2.2.2.1 ur338_3.2.2.2.2.2.2.2.2.1 ur338_3.2.2.2.2.2.2.2.1 ur338_3.2.2.2.2.2.2.2.2.2) := ec_flipD hD
          refine ec_vQi (C := "ExactMeshModel") (ci := 5) (q := (R_R, T_R, 18)) (q0 := 0) (As := [.int (nI 1), .int (nI 1)]) (rest := [.int r338_3]) ⟨hx, hb, hml, hown, htb⟩ (c_R_build l dC dI b cI cZ cJ pn px py ln lf lt hn qx qy rc w1 w2 w3 rg mn kc kf kp (wX a cI cZ cJ pn px py ln lf lt lr ur338_3.1 ur338_3.2.1 ur338_3.2.2.1 ur338_3.2.2.2.1 ur338_3.2.2.2.2.1 hn qx qy ur338_3.2.2.2.2.2.1 ur338_3.2.2.2.2.2.2.1 ur338_3.2.2.2.2.2.2.2.2.1 ur338_3.2.2.2.2.2.2.2.1 ur338_3.2.2.2.2.2.2.2.2.2) 1 1 lr T0 (¬ xs (i + 1) = 0) (¬ xs (i + 2) = 0) gS g3 gF (ec_isB.t1 h347_3) (ec_isB.t1 h360_3) A hD) kv_R_build hK hP rfl rfl rfl hS wd_574 ⟨Nat.le_of_ble_eq_true rfl, Nat.le_of_ble_eq_true rfl⟩ ⟨rfl, rfl⟩ rfl hl.1 rfl (Nat.le_of_ble_eq_true rfl) d_W_368 ⟨Nat.le_of_ble_eq_true rfl, Nat.le_of_ble_eq_true rfl⟩ (fun r368_3 ur368_3 H locs hr368_3 hP hS => ?_)
          replace hr368_3 : r368_3 = nI ur368_3.2.2.2.2.2.1 ∧ ec_En (ec_Kept T0 (ec_E ln lf lt) (ec_Sd T0 (ec_E ln lf lt) px py hn qx qy (¬ xs (i + 1) = 0) (¬ xs (i + 2) = 0))) ur368_3.2.2.2.2.2.1 ur368_3.2.2.2.2.2.2.1 144 ∧ ec_fx (ec_E ln lf lt) ur368_3.2.2.2.2.2.1 ur368_3.2.2.2.2.2.2.1 ur368_3.2.2.2.2.2.2.2.1 ∧ ur368_3.2.2.2.2.2.1 ≤ 19 ∧ ∀ i, i < 3 * ur368_3.2.2.2.2.2.1 → ur368_3.2.2.2.2.2.2.1 i < pn := hr368_3
          replace hP : va_P (dC, dI) vwCl (wR b cI cZ cJ pn px py ln lf lt hn qx qy ur368_3.1 ur368_3.2.1 ur368_3.2.2.1 ur368_3.2.2.2.1 ur368_3.2.2.2.2.1 ur368_3.2.2.2.2.2.1 ur368_3.2.2.2.2.2.2.1 ur368_3.2.2.2.2.2.2.2.1 ur368_3.2.2.2.2.2.2.2.2 ++ wX a cI cZ cJ pn px py ln lf lt lr ur338_3.1 ur338_3.2.1 ur338_3.2.2.1 ur338_3.2.2.2.1 ur338_3.2.2.2.2.1 hn qx qy ur338_3.2.2.2.2.2.1 ur338_3.2.2.2.2.2.2.1 ur338_3.2.2.2.2.2.2.2.2.1 ur338_3.2.2.2.2.2.2.2.1 ur338_3.2.2.2.2.2.2.2.2.2) H := hP
          replace hD : va_D A (wR b cI cZ cJ pn px py ln lf lt hn qx qy ur368_3.1 ur368_3.2.1 ur368_3.2.2.1 ur368_3.2.2.2.1 ur368_3.2.2.2.2.1 ur368_3.2.2.2.2.2.1 ur368_3.2.2.2.2.2.2.1 ur368_3.2.2.2.2.2.2.2.1 ur368_3.2.2.2.2.2.2.2.2 ++ wX a cI cZ cJ pn px py ln lf lt lr ur338_3.1 ur338_3.2.1 ur338_3.2.2.1 ur338_3.2.2.2.1 ur338_3.2.2.2.2.1 hn qx qy ur338_3.2.2.2.2.2.1 ur338_3.2.2.2.2.2.2.1 ur338_3.2.2.2.2.2.2.2.2.1 ur338_3.2.2.2.2.2.2.2.1 ur338_3.2.2.2.2.2.2.2.2.2) := ec_Dk hD rfl
          have hLB := ec_LR_build g12 hEn hr368_3.2.1 hr338_3.2.2.1 hr338_3.2.2.2 hr368_3.2.2.1
          refine lv_icmp_eq (tgt := 630) hx hb d_W_371 rfl (fun h371_3 => ?_) (fun h371_3 => ?_)
          · replace hP : va_P (dC, dI) vwCl (wX a cI cZ cJ pn px py ln lf lt lr ur338_3.1 ur338_3.2.1 ur338_3.2.2.1 ur338_3.2.2.2.1 ur338_3.2.2.2.2.1 hn qx qy ur338_3.2.2.2.2.2.1 ur338_3.2.2.2.2.2.2.1 ur338_3.2.2.2.2.2.2.2.2.1 ur338_3.2.2.2.2.2.2.2.1 ur338_3.2.2.2.2.2.2.2.2.2 ++ wR b cI cZ cJ pn px py ln lf lt hn qx qy ur368_3.1 ur368_3.2.1 ur368_3.2.2.1 ur368_3.2.2.2.1 ur368_3.2.2.2.2.1 ur368_3.2.2.2.2.2.1 ur368_3.2.2.2.2.2.2.1 ur368_3.2.2.2.2.2.2.2.1 ur368_3.2.2.2.2.2.2.2.2) H := ec_flipP hP
            replace hD : va_D A (wX a cI cZ cJ pn px py ln lf lt lr ur338_3.1 ur338_3.2.1 ur338_3.2.2.1 ur338_3.2.2.2.1 ur338_3.2.2.2.2.1 hn qx qy ur338_3.2.2.2.2.2.1 ur338_3.2.2.2.2.2.2.1 ur338_3.2.2.2.2.2.2.2.2.1 ur338_3.2.2.2.2.2.2.2.1 ur338_3.2.2.2.2.2.2.2.2.2 ++ wR b cI cZ cJ pn px py ln lf lt hn qx qy ur368_3.1 ur368_3.2.1 ur368_3.2.2.1 ur368_3.2.2.2.1 ur368_3.2.2.2.2.1 ur368_3.2.2.2.2.2.1 ur368_3.2.2.2.2.2.2.1 ur368_3.2.2.2.2.2.2.2.1 ur368_3.2.2.2.2.2.2.2.2) := ec_flipD hD
            exact kk H locs ⟨pn, px, py, ln, lf, lt, lr, ur338_3.1, ur338_3.2.1, ur338_3.2.2.1, ur338_3.2.2.2.1, ur338_3.2.2.2.2.1, hn, qx, qy, ur338_3.2.2.2.2.2.1, ur338_3.2.2.2.2.2.2.1, ur338_3.2.2.2.2.2.2.2.2.1, ur338_3.2.2.2.2.2.2.2.1, ur338_3.2.2.2.2.2.2.2.2.2, ur368_3.1, ur368_3.2.1, ur368_3.2.2.1, ur368_3.2.2.2.1, ur368_3.2.2.2.2.1, ur368_3.2.2.2.2.2.1, ur368_3.2.2.2.2.2.2.1, ur368_3.2.2.2.2.2.2.2.1, ur368_3.2.2.2.2.2.2.2.2, gS, g3, hr338_3.2.2.1, hLB.2, hLB.1, hP, hD, hS⟩
          · exact absurd ((by rw [hr338_3.1, hr368_3.1, hLB.1])) h371_3
