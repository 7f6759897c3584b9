set_option maxRecDepth 100000 in
set_option maxHeartbeats 4000000 in
theorem law_6 {p : Program} {e : Env} {s : State} {m : MethodId} {below : List Frame} {meth : Method} {c : Code} (l : Launch) {b0 L : Nat} {xs : Nat → Int32} (hL : L ≤ 2560) (C0 : lw_At p s m meth c b0 L xs) {A : Nat → Prop} (hbA : ¬ A b0) {dC : Nat → ClassId} {dI : Nat → Nat → Nat} {a b : Nat → Nat} {cI cZ cJ : ClassId} (hK : va_K (dC, dI) vwCl (ec_tys cI cZ cJ) s) {H : Heap} {locs : List Loc} (hLS : ec_LS dC dI a b cI cZ cJ A s.heap H locs) {ls : Array Slot} {i : Nat} (hl : lv_has ls 4 [(3, .int (nI i)), (0, .ref b0), (1, .ref (a 0)), (2, .ref (b 0))]) (hi : i + 5 ≤ L) (kk : ∀ (H : Heap) (locs : List Loc), ec_LS dC dI a b cI cZ cJ A s.heap H locs → W p l e room_1 s m #[Value.ref b0] below meth c H locs 36 851 (lw_Z below #[Value.ref b0] s) (F0 m 630 ls [])) : W p l e room_1 s m #[Value.ref b0] below meth c H locs 36 851 (lw_Z below #[Value.ref b0] s) (F0 m 376 ls []) := by
  obtain ⟨hx, hb, hr, hml, hown0, hts, hX, hbl, hlocks, hgv⟩ := C0
  have hown : s.vm.findClass "ExactMeshLaw" = some m.cls := hown0
  have htb : ∀ w ∈ ec_tbl, w.before #[Value.ref b0] s = true := fun w h => hts w (List.mem_filter.mp h).1
  obtain ⟨pn, px, py, ln, lf, lt, lr, sn, sf, st, sr, th, hn, qx, qy, mn, mc, mk, mo, mr, rc, w1, w2, w3, rg, rk, kc, kf, kp, gS, g3, gM, gL, hrk, hP, hD, hS⟩ := hLS
  subst hrk
  have g12 := gS.1
  have gN := gS.2.1
  have gln := gS.2.2.2.1
  have gmn := gM.1
  have grk := gM.1
  have gkc := ec_gkc gM gL
  have guq := ec_guq g12 gM gL
  refine lv_aload_n hx hb d_W_376 rfl (lv_at hl 2 rfl) ?_
  refine ec_vSi (C := "ExactMesh") (ci := 4) (q := (R_X, T_X, 5)) (q0 := 0) (As := []) (rest := []) ⟨hx, hb, hml, hown, htb⟩ (c_X_triangles l dC dI a cI cZ cJ pn px py ln lf lt lr sn sf st sr th hn qx qy mn mc mk mo mr (wR b cI cZ cJ pn px py ln lf lt hn qx qy rc w1 w2 w3 rg mn kc kf kp) ) kv_X_triangles hK hP rfl rfl rfl wd_379 ⟨Nat.le_of_ble_eq_true rfl, Nat.le_of_ble_eq_true rfl⟩ ⟨rfl, rfl⟩ rfl hl.1 rfl (Nat.le_of_ble_eq_true rfl) d_W_377 ⟨Nat.le_of_ble_eq_true rfl, Nat.le_of_ble_eq_true rfl⟩ (fun r377 hr377 => ?_)
  replace hr377 : r377 = nI mn := hr377
  subst hr377
  refine lv_aload_n hx hb d_W_380 rfl (lv_at hl 3 rfl) ?_
  replace hP : va_P (dC, dI) vwCl (wR b cI cZ cJ pn px py ln lf lt hn qx qy rc w1 w2 w3 rg mn kc kf kp ++ wX a cI cZ cJ pn px py ln lf lt lr sn sf st sr th hn qx qy mn mc mk mo mr) H := ec_flipP hP
  replace hD : va_D A (wR b cI cZ cJ pn px py ln lf lt hn qx qy rc w1 w2 w3 rg mn kc kf kp ++ wX a cI cZ cJ pn px py ln lf lt lr sn sf st sr th hn qx qy mn mc mk mo mr) := ec_flipD hD
  refine ec_vSi (C := "ExactMeshModel") (ci := 5) (q := (R_R, T_R, 18)) (q0 := 0) (As := []) (rest := [.int (nI mn)]) ⟨hx, hb, hml, hown, htb⟩ (c_R_triangles l dC dI b cI cZ cJ pn px py ln lf lt hn qx qy rc w1 w2 w3 rg mn kc kf kp (wX a cI cZ cJ pn px py ln lf lt lr sn sf st sr th hn qx qy mn mc mk mo mr) ) kv_R_triangles hK hP rfl rfl rfl wd_630 ⟨Nat.le_of_ble_eq_true rfl, Nat.le_of_ble_eq_true rfl⟩ ⟨rfl, rfl⟩ rfl hl.1 rfl (Nat.le_of_ble_eq_true rfl) d_W_381 ⟨Nat.le_of_ble_eq_true rfl, Nat.le_of_ble_eq_true rfl⟩ (fun r381 hr381 => ?_)
  replace hr381 : r381 = nI mn := hr381
  subst hr381
  refine ec_icmp_eq (tgt := 630) hx hb d_W_384 rfl (by omega) (by omega) (fun h384 => ?_) (fun h384 => ?_)
  · replace hP : va_P (dC, dI) vwCl (wX a cI cZ cJ pn px py ln lf lt lr sn sf st sr th hn qx qy mn mc mk mo mr ++ wR b cI cZ cJ pn px py ln lf lt hn qx qy rc w1 w2 w3 rg mn kc kf kp) H := ec_flipP hP
    replace hD : va_D A (wX a cI cZ cJ pn px py ln lf lt lr sn sf st sr th hn qx qy mn mc mk mo mr ++ wR b cI cZ cJ pn px py ln lf lt hn qx qy rc w1 w2 w3 rg mn kc kf kp) := ec_flipD hD
    exact kk H locs ⟨pn, px, py, ln, lf, lt, lr, sn, sf, st, sr, th, hn, qx, qy, mn, mc, mk, mo, mr, rc, w1, w2, w3, rg, mn, kc, kf, kp, gS, g3, gM, gL, rfl, hP, hD, hS⟩
  · exact absurd (rfl) h384
set_option maxRecDepth 100000 in
set_option maxHeartbeats 4000000 in
theorem law_7 {p : Program} {e : Env} {s : State} {m : MethodId} {below : List Frame} {meth : Method} {c : Code} (l : Launch) {b0 L : Nat} {xs : Nat → Int32} (hL : L ≤ 2560) (C0 : lw_At p s m meth c b0 L xs) {A : Nat → Prop} (hbA : ¬ A b0) {dC : Nat → ClassId} {dI : Nat → Nat → Nat} {a b : Nat → Nat} {cI cZ cJ : ClassId} (hK : va_K (dC, dI) vwCl (ec_tys cI cZ cJ) s) {H : Heap} {locs : List Loc} (hLS : ec_LS dC dI a b cI cZ cJ A s.heap H locs) {ls : Array Slot} {i : Nat} (hl : lv_has ls 4 [(3, .int (nI i)), (0, .ref b0), (1, .ref (a 0)), (2, .ref (b 0))]) (hi : i + 5 ≤ L) (kk : ∀ (H : Heap) (locs : List Loc), ec_LS dC dI a b cI cZ cJ A s.heap H locs → W p l e room_1 s m #[Value.ref b0] below meth c H locs 36 851 (lw_Z below #[Value.ref b0] s) (F0 m 630 ls [])) : W p l e room_1 s m #[Value.ref b0] below meth c H locs 36 851 (lw_Z below #[Value.ref b0] s) (F0 m 389 ls []) := by
  obtain ⟨hx, hb, hr, hml, hown0, hts, hX, hbl, hlocks, hgv⟩ := C0
  have hown : s.vm.findClass "ExactMeshLaw" = some m.cls := hown0
  have htb : ∀ w ∈ ec_tbl, w.before #[Value.ref b0] s = true := fun w h => hts w (List.mem_filter.mp h).1
  obtain ⟨pn, px, py, ln, lf, lt, lr, sn, sf, st, sr, th, hn, qx, qy, mn, mc, mk, mo, mr, rc, w1, w2, w3, rg, rk, kc, kf, kp, gS, g3, gM, gL, hrk, hP, hD, hS⟩ := hLS
  subst hrk
  have g12 := gS.1
  have gN := gS.2.1
  have gln := gS.2.2.2.1
  have gmn := gM.1
  have grk := gM.1
  have gkc := ec_gkc gM gL
  have guq := ec_guq g12 gM gL
  refine lv_aload_n hx hb d_W_389 rfl (lv_at hl 2 rfl) ?_
  refine lv_aload_n hx hb d_W_390 rfl (lv_at hl 1 rfl) ?_
  refine lv_iload_n hx hb d_W_391 rfl (lv_at hl 0 rfl) ?_
  refine lv_iconst (v := nI 1) hx hb d_W_392 (by decide) ?_
  refine ec_iadd hx hb d_W_393 ?_
  refine ec_sld (i := i + 1) hx hb hX hbl hbA hS (by omega) (by omega) d_W_394 ?_
  refine lv_aload_n hx hb d_W_395 rfl (lv_at hl 1 rfl) ?_
  refine lv_iload_n hx hb d_W_396 rfl (lv_at hl 0 rfl) ?_
  refine lv_iconst (v := nI 2) hx hb d_W_397 (by decide) ?_
  refine ec_iadd hx hb d_W_398 ?_
  refine ec_sld (i := i + 2) hx hb hX hbl hbA hS (by omega) (by omega) d_W_399 ?_
  refine ec_vSi (C := "ExactMesh") (ci := 4) (q := (R_X, T_X, 5)) (q0 := 0) (As := [.int (xs (i + 1)), .int (xs (i + 2))]) (rest := []) ⟨hx, hb, hml, hown, htb⟩ (c_X_corner l dC dI a cI cZ cJ pn px py ln lf lt lr sn sf st sr th hn qx qy mn mc mk mo mr (wR b cI cZ cJ pn px py ln lf lt hn qx qy rc w1 w2 w3 rg mn kc kf kp) (xs (i + 1)) (xs (i + 2)) gmn) kv_X_corner hK hP rfl rfl rfl wd_383 ⟨Nat.le_of_ble_eq_true rfl, Nat.le_of_ble_eq_true rfl⟩ ⟨rfl, rfl⟩ rfl hl.1 rfl (Nat.le_of_ble_eq_true rfl) d_W_400 ⟨Nat.le_of_ble_eq_true rfl, Nat.le_of_ble_eq_true rfl⟩ (fun r400 hr400 => ?_)
  replace hr400 : r400 = ec_corF mn mc (xs (i + 1)) (xs (i + 2)) := hr400
  subst hr400
  refine lv_aload_n hx hb d_W_403 rfl (lv_at hl 3 rfl) ?_
  refine lv_aload_n hx hb d_W_404 rfl (lv_at hl 1 rfl) ?_
  refine lv_iload_n hx hb d_W_405 rfl (lv_at hl 0 rfl) ?_
  refine lv_iconst (v := nI 1) hx hb d_W_406 (by decide) ?_
  refine ec_iadd hx hb d_W_407 ?_
  refine ec_sld (i := i + 1) hx hb hX hbl hbA hS (by omega) (by omega) d_W_408 ?_
  refine lv_aload_n hx hb d_W_409 rfl (lv_at hl 1 rfl) ?_
  refine lv_iload_n hx hb d_W_410 rfl (lv_at hl 0 rfl) ?_
  refine lv_iconst (v := nI 2) hx hb d_W_411 (by decide) ?_
  refine ec_iadd hx hb d_W_412 ?_
  refine ec_sld (i := i + 2) hx hb hX hbl hbA hS (by omega) (by omega) d_W_413 ?_
  replace hP : va_P (dC, dI) vwCl (wR b cI cZ cJ pn px py ln lf lt hn qx qy rc w1 w2 w3 rg mn kc kf kp ++ wX a cI cZ cJ pn px py ln lf lt lr sn sf st sr th hn qx qy mn mc mk mo mr) H := ec_flipP hP
  replace hD : va_D A (wR b cI cZ cJ pn px py ln lf lt hn qx qy rc w1 w2 w3 rg mn kc kf kp ++ wX a cI cZ cJ pn px py ln lf lt lr sn sf st sr th hn qx qy mn mc mk mo mr) := ec_flipD hD
  refine ec_vSi (C := "ExactMeshModel") (ci := 5) (q := (R_R, T_R, 18)) (q0 := 0) (As := [.int (xs (i + 1)), .int (xs (i + 2))]) (rest := [.int (ec_corF mn mc (xs (i + 1)) (xs (i + 2)))]) ⟨hx, hb, hml, hown, htb⟩ (c_R_corner l dC dI b cI cZ cJ pn px py ln lf lt hn qx qy rc w1 w2 w3 rg mn kc kf kp (wX a cI cZ cJ pn px py ln lf lt lr sn sf st sr th hn qx qy mn mc mk mo mr) (xs (i + 1)) (xs (i + 2)) grk) kv_R_corner hK hP rfl rfl rfl wd_634 ⟨Nat.le_of_ble_eq_true rfl, Nat.le_of_ble_eq_true rfl⟩ ⟨rfl, rfl⟩ rfl hl.1 rfl (Nat.le_of_ble_eq_true rfl) d_W_414 ⟨Nat.le_of_ble_eq_true rfl, Nat.le_of_ble_eq_true rfl⟩ (fun r414 hr414 => ?_)
  replace hr414 : r414 = ec_corF mn kc (xs (i + 1)) (xs (i + 2)) := hr414
  subst hr414
  refine lv_icmp_eq (tgt := 630) hx hb d_W_417 rfl (fun h417 => ?_) (fun h417 => ?_)
  · replace hP : va_P (dC, dI) vwCl (wX a cI cZ cJ pn px py ln lf lt lr sn sf st sr th hn qx qy mn mc mk mo mr ++ wR b cI cZ cJ pn px py ln lf lt hn qx qy rc w1 w2 w3 rg mn kc kf kp) H := ec_flipP hP
    replace hD : va_D A (wX a cI cZ cJ pn px py ln lf lt lr sn sf st sr th hn qx qy mn mc mk mo mr ++ wR b cI cZ cJ pn px py ln lf lt hn qx qy rc w1 w2 w3 rg mn kc kf kp) := ec_flipD hD
    exact kk H locs ⟨pn, px, py, ln, lf, lt, lr, sn, sf, st, sr, th, hn, qx, qy, mn, mc, mk, mo, mr, rc, w1, w2, w3, rg, mn, kc, kf, kp, gS, g3, gM, gL, rfl, hP, hD, hS⟩
  · exact absurd (ec_corF_c gL.1 _ _) h417
set_option maxRecDepth 100000 in
set_option maxHeartbeats 4000000 in
theorem law_8 {p : Program} {e : Env} {s : State} {m : MethodId} {below : List Frame} {meth : Method} {c : Code} (l : Launch) {b0 L : Nat} {xs : Nat → Int32} (hL : L ≤ 2560) (C0 : lw_At p s m meth c b0 L xs) {A : Nat → Prop} (hbA : ¬ A b0) {dC : Nat → ClassId} {dI : Nat → Nat → Nat} {a b : Nat → Nat} {cI cZ cJ : ClassId} (hK : va_K (dC, dI) vwCl (ec_tys cI cZ cJ) s) {H : Heap} {locs : List Loc} (hLS : ec_LS dC dI a b cI cZ cJ A s.heap H locs) {ls : Array Slot} {i : Nat} (hl : lv_has ls 4 [(3, .int (nI i)), (0, .ref b0), (1, .ref (a 0)), (2, .ref (b 0))]) (hi : i + 5 ≤ L) (kk : ∀ (H : Heap) (locs : List Loc), ec_LS dC dI a b cI cZ cJ A s.heap H locs → W p l e room_1 s m #[Value.ref b0] below meth c H locs 36 851 (lw_Z below #[Value.ref b0] s) (F0 m 630 ls [])) : W p l e room_1 s m #[Value.ref b0] below meth c H locs 36 851 (lw_Z below #[Value.ref b0] s) (F0 m 422 ls []) := by
  obtain ⟨hx, hb, hr, hml, hown0, hts, hX, hbl, hlocks, hgv⟩ := C0
  have hown : s.vm.findClass "ExactMeshLaw" = some m.cls := hown0
  have htb : ∀ w ∈ ec_tbl, w.before #[Value.ref b0] s = true := fun w h => hts w (List.mem_filter.mp h).1
  obtain ⟨pn, px, py, ln, lf, lt, lr, sn, sf, st, sr, th, hn, qx, qy, mn, mc, mk, mo, mr, rc, w1, w2, w3, rg, rk, kc, kf, kp, gS, g3, gM, gL, hrk, hP, hD, hS⟩ := hLS
  subst hrk
  have g12 := gS.1
  have gN := gS.2.1
  have gln := gS.2.2.2.1
  have gmn := gM.1
  have grk := gM.1
  have gkc := ec_gkc gM gL
  have guq := ec_guq g12 gM gL
  refine lv_aload_n hx hb d_W_422 rfl (lv_at hl 2 rfl) ?_
  refine lv_aload_n hx hb d_W_423 rfl (lv_at hl 1 rfl) ?_
  refine lv_iload_n hx hb d_W_424 rfl (lv_at hl 0 rfl) ?_
  refine lv_iconst (v := nI 1) hx hb d_W_425 (by decide) ?_
  refine ec_iadd hx hb d_W_426 ?_
  refine ec_sld (i := i + 1) hx hb hX hbl hbA hS (by omega) (by omega) d_W_427 ?_
  refine lv_aload_n hx hb d_W_428 rfl (lv_at hl 1 rfl) ?_
  refine lv_iload_n hx hb d_W_429 rfl (lv_at hl 0 rfl) ?_
  refine lv_iconst (v := nI 2) hx hb d_W_430 (by decide) ?_
  refine ec_iadd hx hb d_W_431 ?_
  refine ec_sld (i := i + 2) hx hb hX hbl hbA hS (by omega) (by omega) d_W_432 ?_
  refine ec_vSi (C := "ExactMesh") (ci := 4) (q := (R_X, T_X, 5)) (q0 := 0) (As := [.int (xs (i + 1)), .int (xs (i + 2))]) (rest := []) ⟨hx, hb, hml, hown, htb⟩ (c_X_across l dC dI a cI cZ cJ pn px py ln lf lt lr sn sf st sr th hn qx qy mn mc mk mo mr (wR b cI cZ cJ pn px py ln lf lt hn qx qy rc w1 w2 w3 rg mn kc kf kp) (xs (i + 1)) (xs (i + 2)) g12 gM) kv_X_across hK hP rfl rfl rfl wd_392 ⟨Nat.le_of_ble_eq_true rfl, Nat.le_of_ble_eq_true rfl⟩ ⟨rfl, rfl⟩ rfl hl.1 rfl (Nat.le_of_ble_eq_true rfl) d_W_433 ⟨Nat.le_of_ble_eq_true rfl, Nat.le_of_ble_eq_true rfl⟩ (fun r433 hr433 => ?_)
  replace hr433 : r433 = ec_acrF mn mc (xs (i + 1)) (xs (i + 2)) := hr433
  subst hr433
  refine lv_aload_n hx hb d_W_436 rfl (lv_at hl 3 rfl) ?_
  refine lv_aload_n hx hb d_W_437 rfl (lv_at hl 1 rfl) ?_
  refine lv_iload_n hx hb d_W_438 rfl (lv_at hl 0 rfl) ?_
  refine lv_iconst (v := nI 1) hx hb d_W_439 (by decide) ?_
  refine ec_iadd hx hb d_W_440 ?_
  refine ec_sld (i := i + 1) hx hb hX hbl hbA hS (by omega) (by omega) d_W_441 ?_
  refine lv_aload_n hx hb d_W_442 rfl (lv_at hl 1 rfl) ?_
  refine lv_iload_n hx hb d_W_443 rfl (lv_at hl 0 rfl) ?_
  refine lv_iconst (v := nI 2) hx hb d_W_444 (by decide) ?_
  refine ec_iadd hx hb d_W_445 ?_
  refine ec_sld (i := i + 2) hx hb hX hbl hbA hS (by omega) (by omega) d_W_446 ?_
  replace hP : va_P (dC, dI) vwCl (wR b cI cZ cJ pn px py ln lf lt hn qx qy rc w1 w2 w3 rg mn kc kf kp ++ wX a cI cZ cJ pn px py ln lf lt lr sn sf st sr th hn qx qy mn mc mk mo mr) H := ec_flipP hP
  replace hD : va_D A (wR b cI cZ cJ pn px py ln lf lt hn qx qy rc w1 w2 w3 rg mn kc kf kp ++ wX a cI cZ cJ pn px py ln lf lt lr sn sf st sr th hn qx qy mn mc mk mo mr) := ec_flipD hD
  refine ec_vSi (C := "ExactMeshModel") (ci := 5) (q := (R_R, T_R, 18)) (q0 := 0) (As := [.int (xs (i + 1)), .int (xs (i + 2))]) (rest := [.int (ec_acrF mn mc (xs (i + 1)) (xs (i + 2)))]) ⟨hx, hb, hml, hown, htb⟩ (c_R_across l dC dI b cI cZ cJ pn px py ln lf lt hn qx qy rc w1 w2 w3 rg mn kc kf kp (wX a cI cZ cJ pn px py ln lf lt lr sn sf st sr th hn qx qy mn mc mk mo mr) (xs (i + 1)) (xs (i + 2)) g12 grk gkc guq) kv_R_across hK hP rfl rfl rfl wd_642 ⟨Nat.le_of_ble_eq_true rfl, Nat.le_of_ble_eq_true rfl⟩ ⟨rfl, rfl⟩ rfl hl.1 rfl (Nat.le_of_ble_eq_true rfl) d_W_447 ⟨Nat.le_of_ble_eq_true rfl, Nat.le_of_ble_eq_true rfl⟩ (fun r447 hr447 => ?_)
  replace hr447 : r447 = ec_acrF mn kc (xs (i + 1)) (xs (i + 2)) := hr447
  subst hr447
  refine lv_icmp_eq (tgt := 630) hx hb d_W_450 rfl (fun h450 => ?_) (fun h450 => ?_)
  · replace hP : va_P (dC, dI) vwCl (wX a cI cZ cJ pn px py ln lf lt lr sn sf st sr th hn qx qy mn mc mk mo mr ++ wR b cI cZ cJ pn px py ln lf lt hn qx qy rc w1 w2 w3 rg mn kc kf kp) H := ec_flipP hP
    replace hD : va_D A (wX a cI cZ cJ pn px py ln lf lt lr sn sf st sr th hn qx qy mn mc mk mo mr ++ wR b cI cZ cJ pn px py ln lf lt hn qx qy rc w1 w2 w3 rg mn kc kf kp) := ec_flipD hD
    exact kk H locs ⟨pn, px, py, ln, lf, lt, lr, sn, sf, st, sr, th, hn, qx, qy, mn, mc, mk, mo, mr, rc, w1, w2, w3, rg, mn, kc, kf, kp, gS, g3, gM, gL, rfl, hP, hD, hS⟩
  · exact absurd (ec_acrF_c gL.1 _ _) h450
set_option maxRecDepth 100000 in
set_option maxHeartbeats 4000000 in
theorem law_9 {p : Program} {e : Env} {s : State} {m : MethodId} {below : List Frame} {meth : Method} {c : Code} (l : Launch) {b0 L : Nat} {xs : Nat → Int32} (hL : L ≤ 2560) (C0 : lw_At p s m meth c b0 L xs) {A : Nat → Prop} (hbA : ¬ A b0) {dC : Nat → ClassId} {dI : Nat → Nat → Nat} {a b : Nat → Nat} {cI cZ cJ : ClassId} (hK : va_K (dC, dI) vwCl (ec_tys cI cZ cJ) s) {H : Heap} {locs : List Loc} (hLS : ec_LS dC dI a b cI cZ cJ A s.heap H locs) {ls : Array Slot} {i : Nat} (hl : lv_has ls 4 [(3, .int (nI i)), (0, .ref b0), (1, .ref (a 0)), (2, .ref (b 0))]) (hi : i + 5 ≤ L) (kk : ∀ (H : Heap) (locs : List Loc), ec_LS dC dI a b cI cZ cJ A s.heap H locs → W p l e room_1 s m #[Value.ref b0] below meth c H locs 36 851 (lw_Z below #[Value.ref b0] s) (F0 m 630 ls [])) : W p l e room_1 s m #[Value.ref b0] below meth c H locs 36 851 (lw_Z below #[Value.ref b0] s) (F0 m 455 ls []) := by
  obtain ⟨hx, hb, hr, hml, hown0, hts, hX, hbl, hlocks, hgv⟩ := C0
  have hown : s.vm.findClass "ExactMeshLaw" = some m.cls := hown0
  have htb : ∀ w ∈ ec_tbl, w.before #[Value.ref b0] s = true := fun w h => hts w (List.mem_filter.mp h).1
  obtain ⟨pn, px, py, ln, lf, lt, lr, sn, sf, st, sr, th, hn, qx, qy, mn, mc, mk, mo, mr, rc, w1, w2, w3, rg, rk, kc, kf, kp, gS, g3, gM, gL, hrk, hP, hD, hS⟩ := hLS
  subst hrk
  have g12 := gS.1
  have gN := gS.2.1
  have gln := gS.2.2.2.1
  have gmn := gM.1
  have grk := gM.1
  have gkc := ec_gkc gM gL
  have guq := ec_guq g12 gM gL
  refine lv_aload_n hx hb d_W_455 rfl (lv_at hl 2 rfl) ?_
  refine lv_aload_n hx hb d_W_456 rfl (lv_at hl 1 rfl) ?_
  refine lv_iload_n hx hb d_W_457 rfl (lv_at hl 0 rfl) ?_
  refine lv_iconst (v := nI 1) hx hb d_W_458 (by decide) ?_
  refine ec_iadd hx hb d_W_459 ?_
  refine ec_sld (i := i + 1) hx hb hX hbl hbA hS (by omega) (by omega) d_W_460 ?_
  refine lv_aload_n hx hb d_W_461 rfl (lv_at hl 1 rfl) ?_
  refine lv_iload_n hx hb d_W_462 rfl (lv_at hl 0 rfl) ?_
  refine lv_iconst (v := nI 2) hx hb d_W_463 (by decide) ?_
  refine ec_iadd hx hb d_W_464 ?_
  refine ec_sld (i := i + 2) hx hb hX hbl hbA hS (by omega) (by omega) d_W_465 ?_
  refine ec_vSi (C := "ExactMesh") (ci := 4) (q := (R_X, T_X, 5)) (q0 := 0) (As := [.int (xs (i + 1)), .int (xs (i + 2))]) (rest := []) ⟨hx, hb, hml, hown, htb⟩ (c_X_fixed l dC dI a cI cZ cJ pn px py ln lf lt lr sn sf st sr th hn qx qy mn mc mk mo mr (wR b cI cZ cJ pn px py ln lf lt hn qx qy rc w1 w2 w3 rg mn kc kf kp) (xs (i + 1)) (xs (i + 2)) g12 gM) kv_X_fixed hK hP rfl rfl rfl wd_397 ⟨Nat.le_of_ble_eq_true rfl, Nat.le_of_ble_eq_true rfl⟩ ⟨rfl, rfl⟩ rfl hl.1 rfl (Nat.le_of_ble_eq_true rfl) d_W_466 ⟨Nat.le_of_ble_eq_true rfl, Nat.le_of_ble_eq_true rfl⟩ (fun r466 hr466 => ?_)
  replace hr466 : ec_isB r466 (ec_hc mn (xs (i + 1)) (xs (i + 2)) ∧ (mr (mc (3 * ec_n (xs (i + 1)) + ec_n (xs (i + 2))))).testBit (mc (3 * ec_n (xs (i + 1)) + ec_nx (ec_n (xs (i + 2))))) = true) := hr466
  refine lv_aload_n hx hb d_W_469 rfl (lv_at hl 3 rfl) ?_
  refine lv_aload_n hx hb d_W_470 rfl (lv_at hl 1 rfl) ?_
  refine lv_iload_n hx hb d_W_471 rfl (lv_at hl 0 rfl) ?_
  refine lv_iconst (v := nI 1) hx hb d_W_472 (by decide) ?_
  refine ec_iadd hx hb d_W_473 ?_
  refine ec_sld (i := i + 1) hx hb hX hbl hbA hS (by omega) (by omega) d_W_474 ?_
  refine lv_aload_n hx hb d_W_475 rfl (lv_at hl 1 rfl) ?_
  refine lv_iload_n hx hb d_W_476 rfl (lv_at hl 0 rfl) ?_
  refine lv_iconst (v := nI 2) hx hb d_W_477 (by decide) ?_
  refine ec_iadd hx hb d_W_478 ?_
  refine ec_sld (i := i + 2) hx hb hX hbl hbA hS (by omega) (by omega) d_W_479 ?_
  replace hP : va_P (dC, dI) vwCl (wR b cI cZ cJ pn px py ln lf lt hn qx qy rc w1 w2 w3 rg mn kc kf kp ++ wX a cI cZ cJ pn px py ln lf lt lr sn sf st sr th hn qx qy mn mc mk mo mr) H := ec_flipP hP
  replace hD : va_D A (wR b cI cZ cJ pn px py ln lf lt hn qx qy rc w1 w2 w3 rg mn kc kf kp ++ wX a cI cZ cJ pn px py ln lf lt lr sn sf st sr th hn qx qy mn mc mk mo mr) := ec_flipD hD
  refine ec_vSi (C := "ExactMeshModel") (ci := 5) (q := (R_R, T_R, 18)) (q0 := 0) (As := [.int (xs (i + 1)), .int (xs (i + 2))]) (rest := [.int r466]) ⟨hx, hb, hml, hown, htb⟩ (c_R_fixed l dC dI b cI cZ cJ pn px py ln lf lt hn qx qy rc w1 w2 w3 rg mn kc kf kp (wX a cI cZ cJ pn px py ln lf lt lr sn sf st sr th hn qx qy mn mc mk mo mr) (xs (i + 1)) (xs (i + 2)) grk) kv_R_fixed hK hP rfl rfl rfl wd_646 ⟨Nat.le_of_ble_eq_true rfl, Nat.le_of_ble_eq_true rfl⟩ ⟨rfl, rfl⟩ rfl hl.1 rfl (Nat.le_of_ble_eq_true rfl) d_W_480 ⟨Nat.le_of_ble_eq_true rfl, Nat.le_of_ble_eq_true rfl⟩ (fun r480 hr480 => ?_)
  replace hr480 : ec_isB r480 (ec_hc mn (xs (i + 1)) (xs (i + 2)) ∧ kf (3 * ec_n (xs (i + 1)) + ec_n (xs (i + 2)))) := hr480
  refine lv_icmp_eq (tgt := 630) hx hb d_W_483 rfl (fun h483 => ?_) (fun h483 => ?_)
  · replace hP : va_P (dC, dI) vwCl (wX a cI cZ cJ pn px py ln lf lt lr sn sf st sr th hn qx qy mn mc mk mo mr ++ wR b cI cZ cJ pn px py ln lf lt hn qx qy rc w1 w2 w3 rg mn kc kf kp) H := ec_flipP hP
    replace hD : va_D A (wX a cI cZ cJ pn px py ln lf lt lr sn sf st sr th hn qx qy mn mc mk mo mr ++ wR b cI cZ cJ pn px py ln lf lt hn qx qy rc w1 w2 w3 rg mn kc kf kp) := ec_flipD hD
    exact kk H locs ⟨pn, px, py, ln, lf, lt, lr, sn, sf, st, sr, th, hn, qx, qy, mn, mc, mk, mo, mr, rc, w1, w2, w3, rg, mn, kc, kf, kp, gS, g3, gM, gL, rfl, hP, hD, hS⟩
  · exact absurd (ec_fix_eq gL hr466 hr480) h483
set_option maxRecDepth 100000 in
set_option maxHeartbeats 4000000 in
theorem law_10 {p : Program} {e : Env} {s : State} {m : MethodId} {below : List Frame} {meth : Method} {c : Code} (l : Launch) {b0 L : Nat} {xs : Nat → Int32} (hL : L ≤ 2560) (C0 : lw_At p s m meth c b0 L xs) {A : Nat → Prop} (hbA : ¬ A b0) {dC : Nat → ClassId} {dI : Nat → Nat → Nat} {a b : Nat → Nat} {cI cZ cJ : ClassId} (hK : va_K (dC, dI) vwCl (ec_tys cI cZ cJ) s) {H : Heap} {locs : List Loc} (hLS : ec_LS dC dI a b cI cZ cJ A s.heap H locs) {ls : Array Slot} {i : Nat} (hl : lv_has ls 4 [(3, .int (nI i)), (0, .ref b0), (1, .ref (a 0)), (2, .ref (b 0))]) (hi : i + 5 ≤ L) (kk : ∀ (H : Heap) (locs : List Loc), ec_LS dC dI a b cI cZ cJ A s.heap H locs → W p l e room_1 s m #[Value.ref b0] below meth c H locs 36 851 (lw_Z below #[Value.ref b0] s) (F0 m 630 ls [])) : W p l e room_1 s m #[Value.ref b0] below meth c H locs 36 851 (lw_Z below #[Value.ref b0] s) (F0 m 488 ls []) := by
  obtain ⟨hx, hb, hr, hml, hown0, hts, hX, hbl, hlocks, hgv⟩ := C0
  have hown : s.vm.findClass "ExactMeshLaw" = some m.cls := hown0
  have htb : ∀ w ∈ ec_tbl, w.before #[Value.ref b0] s = true := fun w h => hts w (List.mem_filter.mp h).1
  obtain ⟨pn, px, py, ln, lf, lt, lr, sn, sf, st, sr, th, hn, qx, qy, mn, mc, mk, mo, mr, rc, w1, w2, w3, rg, rk, kc, kf, kp, gS, g3, gM, gL, hrk, hP, hD, hS⟩ := hLS
  subst hrk
  have g12 := gS.1
  have gN := gS.2.1
  have gln := gS.2.2.2.1
  have gmn := gM.1
  have grk := gM.1
  have gkc := ec_gkc gM gL
  have guq := ec_guq g12 gM gL
  refine lv_aload_n hx hb d_W_488 rfl (lv_at hl 2 rfl) ?_
  refine lv_aload_n hx hb d_W_489 rfl (lv_at hl 1 rfl) ?_
  refine lv_iload_n hx hb d_W_490 rfl (lv_at hl 0 rfl) ?_
  refine lv_iconst (v := nI 1) hx hb d_W_491 (by decide) ?_
  refine ec_iadd hx hb d_W_492 ?_
  refine ec_sld (i := i + 1) hx hb hX hbl hbA hS (by omega) (by omega) d_W_493 ?_
  refine lv_aload_n hx hb d_W_494 rfl (lv_at hl 1 rfl) ?_
  refine lv_iload_n hx hb d_W_495 rfl (lv_at hl 0 rfl) ?_
  refine lv_iconst (v := nI 2) hx hb d_W_496 (by decide) ?_
  refine ec_iadd hx hb d_W_497 ?_
  refine ec_sld (i := i + 2) hx hb hX hbl hbA hS (by omega) (by omega) d_W_498 ?_
  refine ec_vSi (C := "ExactMesh") (ci := 4) (q := (R_X, T_X, 5)) (q0 := 0) (As := [.int (xs (i + 1)), .int (xs (i + 2))]) (rest := []) ⟨hx, hb, hml, hown, htb⟩ (c_X_locate l dC dI a cI cZ cJ pn px py ln lf lt lr sn sf st sr th hn qx qy mn mc mk mo mr (wR b cI cZ cJ pn px py ln lf lt hn qx qy rc w1 w2 w3 rg mn kc kf kp) (xs (i + 1)) (xs (i + 2)) g12 gN gM) kv_X_locate hK hP rfl rfl rfl wd_402 ⟨Nat.le_of_ble_eq_true rfl, Nat.le_of_ble_eq_true rfl⟩ ⟨rfl, rfl⟩ rfl hl.1 rfl (Nat.le_of_ble_eq_true rfl) d_W_499 ⟨Nat.le_of_ble_eq_true rfl, Nat.le_of_ble_eq_true rfl⟩ (fun r499 hr499 => ?_)
  replace hr499 : ∃ o, r499 = ec_oi o ∧ ec_fst mn (fun t => ec_hold px py mc t (xs (i + 1)) (xs (i + 2))) o := hr499
  obtain ⟨or499, er499, hor499⟩ := hr499
  subst er499
  refine lv_aload_n hx hb d_W_502 rfl (lv_at hl 3 rfl) ?_
  refine lv_aload_n hx hb d_W_503 rfl (lv_at hl 1 rfl) ?_
  refine lv_iload_n hx hb d_W_504 rfl (lv_at hl 0 rfl) ?_
  refine lv_iconst (v := nI 1) hx hb d_W_505 (by decide) ?_
  refine ec_iadd hx hb d_W_506 ?_
  refine ec_sld (i := i + 1) hx hb hX hbl hbA hS (by omega) (by omega) d_W_507 ?_
  refine lv_aload_n hx hb d_W_508 rfl (lv_at hl 1 rfl) ?_
  refine lv_iload_n hx hb d_W_509 rfl (lv_at hl 0 rfl) ?_
  refine lv_iconst (v := nI 2) hx hb d_W_510 (by decide) ?_
  refine ec_iadd hx hb d_W_511 ?_
  refine ec_sld (i := i + 2) hx hb hX hbl hbA hS (by omega) (by omega) d_W_512 ?_
  replace hP : va_P (dC, dI) vwCl (wR b cI cZ cJ pn px py ln lf lt hn qx qy rc w1 w2 w3 rg mn kc kf kp ++ wX a cI cZ cJ pn px py ln lf lt lr sn sf st sr th hn qx qy mn mc mk mo mr) H := ec_flipP hP
  replace hD : va_D A (wR b cI cZ cJ pn px py ln lf lt hn qx qy rc w1 w2 w3 rg mn kc kf kp ++ wX a cI cZ cJ pn px py ln lf lt lr sn sf st sr th hn qx qy mn mc mk mo mr) := ec_flipD hD
  refine ec_vSi (C := "ExactMeshModel") (ci := 5) (q := (R_R, T_R, 18)) (q0 := 0) (As := [.int (xs (i + 1)), .int (xs (i + 2))]) (rest := [.int (ec_oi or499)]) ⟨hx, hb, hml, hown, htb⟩ (c_R_locate l dC dI b cI cZ cJ pn px py ln lf lt hn qx qy rc w1 w2 w3 rg mn kc kf kp (wX a cI cZ cJ pn px py ln lf lt lr sn sf st sr th hn qx qy mn mc mk mo mr) (xs (i + 1)) (xs (i + 2)) g12 gN grk gkc) kv_R_locate hK hP rfl rfl rfl wd_650 ⟨Nat.le_of_ble_eq_true rfl, Nat.le_of_ble_eq_true rfl⟩ ⟨rfl, rfl⟩ rfl hl.1 rfl (Nat.le_of_ble_eq_true rfl) d_W_513 ⟨Nat.le_of_ble_eq_true rfl, Nat.le_of_ble_eq_true rfl⟩ (fun r513 hr513 => ?_)
  replace hr513 : ∃ o, r513 = ec_oi o ∧ ec_fst mn (fun t => ec_hold px py kc t (xs (i + 1)) (xs (i + 2))) o := hr513
  obtain ⟨or513, er513, hor513⟩ := hr513
  subst er513
  refine lv_icmp_eq (tgt := 630) hx hb d_W_516 rfl (fun h516 => ?_) (fun h516 => ?_)
  · replace hP : va_P (dC, dI) vwCl (wX a cI cZ cJ pn px py ln lf lt lr sn sf st sr th hn qx qy mn mc mk mo mr ++ wR b cI cZ cJ pn px py ln lf lt hn qx qy rc w1 w2 w3 rg mn kc kf kp) H := ec_flipP hP
    replace hD : va_D A (wX a cI cZ cJ pn px py ln lf lt lr sn sf st sr th hn qx qy mn mc mk mo mr ++ wR b cI cZ cJ pn px py ln lf lt hn qx qy rc w1 w2 w3 rg mn kc kf kp) := ec_flipD hD
    exact kk H locs ⟨pn, px, py, ln, lf, lt, lr, sn, sf, st, sr, th, hn, qx, qy, mn, mc, mk, mo, mr, rc, w1, w2, w3, rg, mn, kc, kf, kp, gS, g3, gM, gL, rfl, hP, hD, hS⟩
  · exact absurd (congrArg ec_oi (ec_fst_u (ec_hold_c gL.1 _ _) hor499 hor513)) h516
set_option maxRecDepth 100000 in
set_option maxHeartbeats 4000000 in
theorem law_11 {p : Program} {e : Env} {s : State} {m : MethodId} {below : List Frame} {meth : Method} {c : Code} (l : Launch) {b0 L : Nat} {xs : Nat → Int32} (hL : L ≤ 2560) (C0 : lw_At p s m meth c b0 L xs) {A : Nat → Prop} (hbA : ¬ A b0) {dC : Nat → ClassId} {dI : Nat → Nat → Nat} {a b : Nat → Nat} {cI cZ cJ : ClassId} (hK : va_K (dC, dI) vwCl (ec_tys cI cZ cJ) s) {H : Heap} {locs : List Loc} (hLS : ec_LS dC dI a b cI cZ cJ A s.heap H locs) {ls : Array Slot} {i : Nat} (hl : lv_has ls 4 [(3, .int (nI i)), (0, .ref b0), (1, .ref (a 0)), (2, .ref (b 0))]) (hi : i + 5 ≤ L) (kk : ∀ (H : Heap) (locs : List Loc), ec_LS dC dI a b cI cZ cJ A s.heap H locs → W p l e room_1 s m #[Value.ref b0] below meth c H locs 36 851 (lw_Z below #[Value.ref b0] s) (F0 m 630 ls [])) : W p l e room_1 s m #[Value.ref b0] below meth c H locs 36 851 (lw_Z below #[Value.ref b0] s) (F0 m 521 ls []) := by
  obtain ⟨hx, hb, hr, hml, hown0, hts, hX, hbl, hlocks, hgv⟩ := C0
  have hown : s.vm.findClass "ExactMeshLaw" = some m.cls := hown0
  have htb : ∀ w ∈ ec_tbl, w.before #[Value.ref b0] s = true := fun w h => hts w (List.mem_filter.mp h).1
  obtain ⟨pn, px, py, ln, lf, lt, lr, sn, sf, st, sr, th, hn, qx, qy, mn, mc, mk, mo, mr, rc, w1, w2, w3, rg, rk, kc, kf, kp, gS, g3, gM, gL, hrk, hP, hD, hS⟩ := hLS
  subst hrk
  have g12 := gS.1
  have gN := gS.2.1
  have gln := gS.2.2.2.1
  have gmn := gM.1
  have grk := gM.1
  have gkc := ec_gkc gM gL
  have guq := ec_guq g12 gM gL
  refine lv_aload_n hx hb d_W_521 rfl (lv_at hl 2 rfl) ?_
  refine lv_aload_n hx hb d_W_522 rfl (lv_at hl 1 rfl) ?_
  refine lv_iload_n hx hb d_W_523 rfl (lv_at hl 0 rfl) ?_
  refine lv_iconst (v := nI 1) hx hb d_W_524 (by decide) ?_
  refine ec_iadd hx hb d_W_525 ?_
  refine ec_sld (i := i + 1) hx hb hX hbl hbA hS (by omega) (by omega) d_W_526 ?_
  refine ec_vSi (C := "ExactMesh") (ci := 4) (q := (R_X, T_X, 5)) (q0 := 0) (As := [.int (xs (i + 1))]) (rest := []) ⟨hx, hb, hml, hown, htb⟩ (c_X_degree l dC dI a cI cZ cJ pn px py ln lf lt lr sn sf st sr th hn qx qy mn mc mk mo mr (wR b cI cZ cJ pn px py ln lf lt hn qx qy rc w1 w2 w3 rg mn kc kf kp) (xs (i + 1)) g12 gmn) kv_X_degree hK hP rfl rfl rfl wd_407 ⟨Nat.le_of_ble_eq_true rfl, Nat.le_of_ble_eq_true rfl⟩ ⟨rfl, rfl⟩ rfl hl.1 rfl (Nat.le_of_ble_eq_true rfl) d_W_527 ⟨Nat.le_of_ble_eq_true rfl, Nat.le_of_ble_eq_true rfl⟩ (fun r527 hr527 => ?_)
  replace hr527 : r527 = ec_degF pn mn mc (xs (i + 1)) := hr527
  subst hr527
  refine lv_aload_n hx hb d_W_530 rfl (lv_at hl 3 rfl) ?_
  refine lv_aload_n hx hb d_W_531 rfl (lv_at hl 1 rfl) ?_
  refine lv_iload_n hx hb d_W_532 rfl (lv_at hl 0 rfl) ?_
  refine lv_iconst (v := nI 1) hx hb d_W_533 (by decide) ?_
  refine ec_iadd hx hb d_W_534 ?_
  refine ec_sld (i := i + 1) hx hb hX hbl hbA hS (by omega) (by omega) d_W_535 ?_
  replace hP : va_P (dC, dI) vwCl (wR b cI cZ cJ pn px py ln lf lt hn qx qy rc w1 w2 w3 rg mn kc kf kp ++ wX a cI cZ cJ pn px py ln lf lt lr sn sf st sr th hn qx qy mn mc mk mo mr) H := ec_flipP hP
  replace hD : va_D A (wR b cI cZ cJ pn px py ln lf lt hn qx qy rc w1 w2 w3 rg mn kc kf kp ++ wX a cI cZ cJ pn px py ln lf lt lr sn sf st sr th hn qx qy mn mc mk mo mr) := ec_flipD hD
  refine ec_vSi (C := "ExactMeshModel") (ci := 5) (q := (R_R, T_R, 18)) (q0 := 0) (As := [.int (xs (i + 1))]) (rest := [.int (ec_degF pn mn mc (xs (i + 1)))]) ⟨hx, hb, hml, hown, htb⟩ (c_R_degree l dC dI b cI cZ cJ pn px py ln lf lt hn qx qy rc w1 w2 w3 rg mn kc kf kp (wX a cI cZ cJ pn px py ln lf lt lr sn sf st sr th hn qx qy mn mc mk mo mr) (xs (i + 1)) g12 grk) kv_R_degree hK hP rfl rfl rfl wd_654 ⟨Nat.le_of_ble_eq_true rfl, Nat.le_of_ble_eq_true rfl⟩ ⟨rfl, rfl⟩ rfl hl.1 rfl (Nat.le_of_ble_eq_true rfl) d_W_536 ⟨Nat.le_of_ble_eq_true rfl, Nat.le_of_ble_eq_true rfl⟩ (fun r536 hr536 => ?_)
  replace hr536 : r536 = ec_degF pn mn kc (xs (i + 1)) := hr536
  subst hr536
  refine lv_icmp_eq (tgt := 630) hx hb d_W_539 rfl (fun h539 => ?_) (fun h539 => ?_)
  · replace hP : va_P (dC, dI) vwCl (wX a cI cZ cJ pn px py ln lf lt lr sn sf st sr th hn qx qy mn mc mk mo mr ++ wR b cI cZ cJ pn px py ln lf lt hn qx qy rc w1 w2 w3 rg mn kc kf kp) H := ec_flipP hP
    replace hD : va_D A (wX a cI cZ cJ pn px py ln lf lt lr sn sf st sr th hn qx qy mn mc mk mo mr ++ wR b cI cZ cJ pn px py ln lf lt hn qx qy rc w1 w2 w3 rg mn kc kf kp) := ec_flipD hD
    exact kk H locs ⟨pn, px, py, ln, lf, lt, lr, sn, sf, st, sr, th, hn, qx, qy, mn, mc, mk, mo, mr, rc, w1, w2, w3, rg, mn, kc, kf, kp, gS, g3, gM, gL, rfl, hP, hD, hS⟩
  · exact absurd (ec_degF_c gL.1 _) h539
set_option maxRecDepth 100000 in
set_option maxHeartbeats 4000000 in
theorem law_12 {p : Program} {e : Env} {s : State} {m : MethodId} {below : List Frame} {meth : Method} {c : Code} (l : Launch) {b0 L : Nat} {xs : Nat → Int32} (hL : L ≤ 2560) (C0 : lw_At p s m meth c b0 L xs) {A : Nat → Prop} (hbA : ¬ A b0) {dC : Nat → ClassId} {dI : Nat → Nat → Nat} {a b : Nat → Nat} {cI cZ cJ : ClassId} (hK : va_K (dC, dI) vwCl (ec_tys cI cZ cJ) s) {H : Heap} {locs : List Loc} (hLS : ec_LS dC dI a b cI cZ cJ A s.heap H locs) {ls : Array Slot} {i : Nat} (hl : lv_has ls 4 [(3, .int (nI i)), (0, .ref b0), (1, .ref (a 0)), (2, .ref (b 0))]) (hi : i + 5 ≤ L) (kk : ∀ (H : Heap) (locs : List Loc), ec_LS dC dI a b cI cZ cJ A s.heap H locs → W p l e room_1 s m #[Value.ref b0] below meth c H locs 36 851 (lw_Z below #[Value.ref b0] s) (F0 m 630 ls [])) : W p l e room_1 s m #[Value.ref b0] below meth c H locs 36 851 (lw_Z below #[Value.ref b0] s) (F0 m 544 ls []) := by
  obtain ⟨hx, hb, hr, hml, hown0, hts, hX, hbl, hlocks, hgv⟩ := C0
  have hown : s.vm.findClass "ExactMeshLaw" = some m.cls := hown0
  have htb : ∀ w ∈ ec_tbl, w.before #[Value.ref b0] s = true := fun w h => hts w (List.mem_filter.mp h).1
  obtain ⟨pn, px, py, ln, lf, lt, lr, sn, sf, st, sr, th, hn, qx, qy, mn, mc, mk, mo, mr, rc, w1, w2, w3, rg, rk, kc, kf, kp, gS, g3, gM, gL, hrk, hP, hD, hS⟩ := hLS
  subst hrk
  have g12 := gS.1
  have gN := gS.2.1
  have gln := gS.2.2.2.1
  have gmn := gM.1
  have grk := gM.1
  have gkc := ec_gkc gM gL
  have guq := ec_guq g12 gM gL
  refine lv_aload_n hx hb d_W_544 rfl (lv_at hl 2 rfl) ?_
  refine ec_vSl (C := "ExactMesh") (ci := 4) (q := (R_X, T_X, 5)) (q0 := 0) (As := []) (rest := []) ⟨hx, hb, hml, hown, htb⟩ (c_X_area l dC dI a cI cZ cJ pn px py ln lf lt lr sn sf st sr th hn qx qy mn mc mk mo mr (wR b cI cZ cJ pn px py ln lf lt hn qx qy rc w1 w2 w3 rg mn kc kf kp) g12 gN gM) kv_X_area hK hP rfl rfl rfl wd_415 ⟨Nat.le_of_ble_eq_true rfl, Nat.le_of_ble_eq_true rfl⟩ ⟨rfl, rfl⟩ rfl hl.1 rfl (Nat.le_of_ble_eq_true rfl) d_W_545 ⟨Nat.le_of_ble_eq_true rfl, Nat.le_of_ble_eq_true rfl⟩ (fun r545 hr545 => ?_)
  replace hr545 : r545 = ec_sumL (ec_arT px py mc) mn := hr545
  refine lv_aload_n hx hb d_W_548 rfl (lv_at hl 3 rfl) ?_
  replace hP : va_P (dC, dI) vwCl (wR b cI cZ cJ pn px py ln lf lt hn qx qy rc w1 w2 w3 rg mn kc kf kp ++ wX a cI cZ cJ pn px py ln lf lt lr sn sf st sr th hn qx qy mn mc mk mo mr) H := ec_flipP hP
  replace hD : va_D A (wR b cI cZ cJ pn px py ln lf lt hn qx qy rc w1 w2 w3 rg mn kc kf kp ++ wX a cI cZ cJ pn px py ln lf lt lr sn sf st sr th hn qx qy mn mc mk mo mr) := ec_flipD hD
  refine ec_vSl (C := "ExactMeshModel") (ci := 5) (q := (R_R, T_R, 18)) (q0 := 0) (As := []) (rest := [.long r545]) ⟨hx, hb, hml, hown, htb⟩ (c_R_area l dC dI b cI cZ cJ pn px py ln lf lt hn qx qy rc w1 w2 w3 rg mn kc kf kp (wX a cI cZ cJ pn px py ln lf lt lr sn sf st sr th hn qx qy mn mc mk mo mr) g12 gN grk gkc) kv_R_area hK hP rfl rfl rfl wd_658 ⟨Nat.le_of_ble_eq_true rfl, Nat.le_of_ble_eq_true rfl⟩ ⟨rfl, rfl⟩ rfl hl.1 rfl (Nat.le_of_ble_eq_true rfl) d_W_549 ⟨Nat.le_of_ble_eq_true rfl, Nat.le_of_ble_eq_true rfl⟩ (fun r549 hr549 => ?_)
  replace hr549 : r549 = ec_sumL (ec_arT px py kc) mn := hr549
  refine W.lcmp hx hb d_W_552 ?_
  refine lv_if_eq (tgt := 630) hx hb d_W_553 rfl (fun h553 => ?_) (fun h553 => ?_)
  · rw [lg_cmp_eq] at h553
    replace hP : va_P (dC, dI) vwCl (wX a cI cZ cJ pn px py ln lf lt lr sn sf st sr th hn qx qy mn mc mk mo mr ++ wR b cI cZ cJ pn px py ln lf lt hn qx qy rc w1 w2 w3 rg mn kc kf kp) H := ec_flipP hP
    replace hD : va_D A (wX a cI cZ cJ pn px py ln lf lt lr sn sf st sr th hn qx qy mn mc mk mo mr ++ wR b cI cZ cJ pn px py ln lf lt hn qx qy rc w1 w2 w3 rg mn kc kf kp) := ec_flipD hD
    exact kk H locs ⟨pn, px, py, ln, lf, lt, lr, sn, sf, st, sr, th, hn, qx, qy, mn, mc, mk, mo, mr, rc, w1, w2, w3, rg, mn, kc, kf, kp, gS, g3, gM, gL, rfl, hP, hD, hS⟩
  · rw [lg_cmp_eq] at h553
    exact absurd (hr545.trans ((ec_are_c gL.1).trans hr549.symm)) h553
set_option maxRecDepth 100000 in
set_option maxHeartbeats 4000000 in
theorem law_13 {p : Program} {e : Env} {s : State} {m : MethodId} {below : List Frame} {meth : Method} {c : Code} (l : Launch) {b0 L : Nat} {xs : Nat → Int32} (hL : L ≤ 2560) (C0 : lw_At p s m meth c b0 L xs) {A : Nat → Prop} (hbA : ¬ A b0) {dC : Nat → ClassId} {dI : Nat → Nat → Nat} {a b : Nat → Nat} {cI cZ cJ : ClassId} (hK : va_K (dC, dI) vwCl (ec_tys cI cZ cJ) s) {H : Heap} {locs : List Loc} (hLS : ec_LS dC dI a b cI cZ cJ A s.heap H locs) {ls : Array Slot} {i : Nat} (hl : lv_has ls 4 [(3, .int (nI i)), (0, .ref b0), (1, .ref (a 0)), (2, .ref (b 0))]) (hi : i + 5 ≤ L) (kk : ∀ (H : Heap) (locs : List Loc), ec_LS dC dI a b cI cZ cJ A s.heap H locs → W p l e room_1 s m #[Value.ref b0] below meth c H locs 36 851 (lw_Z below #[Value.ref b0] s) (F0 m 630 ls [])) : W p l e room_1 s m #[Value.ref b0] below meth c H locs 36 851 (lw_Z below #[Value.ref b0] s) (F0 m 558 ls []) := by
  obtain ⟨hx, hb, hr, hml, hown0, hts, hX, hbl, hlocks, hgv⟩ := C0
  have hown : s.vm.findClass "ExactMeshLaw" = some m.cls := hown0
  have htb : ∀ w ∈ ec_tbl, w.before #[Value.ref b0] s = true := fun w h => hts w (List.mem_filter.mp h).1
  obtain ⟨pn, px, py, ln, lf, lt, lr, sn, sf, st, sr, th, hn, qx, qy, mn, mc, mk, mo, mr, rc, w1, w2, w3, rg, rk, kc, kf, kp, gS, g3, gM, gL, hrk, hP, hD, hS⟩ := hLS
  subst hrk
  have g12 := gS.1
  have gN := gS.2.1
  have gln := gS.2.2.2.1
  have gmn := gM.1
  have grk := gM.1
  have gkc := ec_gkc gM gL
  have guq := ec_guq g12 gM gL
  refine lv_aload_n hx hb d_W_558 rfl (lv_at hl 2 rfl) ?_
  refine ec_vSi (C := "ExactMesh") (ci := 4) (q := (R_X, T_X, 5)) (q0 := 0) (As := []) (rest := []) ⟨hx, hb, hml, hown, htb⟩ (c_X_border l dC dI a cI cZ cJ pn px py ln lf lt lr sn sf st sr th hn qx qy mn mc mk mo mr (wR b cI cZ cJ pn px py ln lf lt hn qx qy rc w1 w2 w3 rg mn kc kf kp) g12 gM) kv_X_border hK hP rfl rfl rfl wd_423 ⟨Nat.le_of_ble_eq_true rfl, Nat.le_of_ble_eq_true rfl⟩ ⟨rfl, rfl⟩ rfl hl.1 rfl (Nat.le_of_ble_eq_true rfl) d_W_559 ⟨Nat.le_of_ble_eq_true rfl, Nat.le_of_ble_eq_true rfl⟩ (fun r559 hr559 => ?_)
  replace hr559 : r559 = nI (ec_bor mn mc (3 * mn)) := hr559
  subst hr559
  refine lv_aload_n hx hb d_W_562 rfl (lv_at hl 3 rfl) ?_
  replace hP : va_P (dC, dI) vwCl (wR b cI cZ cJ pn px py ln lf lt hn qx qy rc w1 w2 w3 rg mn kc kf kp ++ wX a cI cZ cJ pn px py ln lf lt lr sn sf st sr th hn qx qy mn mc mk mo mr) H := ec_flipP hP
  replace hD : va_D A (wR b cI cZ cJ pn px py ln lf lt hn qx qy rc w1 w2 w3 rg mn kc kf kp ++ wX a cI cZ cJ pn px py ln lf lt lr sn sf st sr th hn qx qy mn mc mk mo mr) := ec_flipD hD
  refine ec_vSi (C := "ExactMeshModel") (ci := 5) (q := (R_R, T_R, 18)) (q0 := 0) (As := []) (rest := [.int (nI (ec_bor mn mc (3 * mn)))]) ⟨hx, hb, hml, hown, htb⟩ (c_R_border l dC dI b cI cZ cJ pn px py ln lf lt hn qx qy rc w1 w2 w3 rg mn kc kf kp (wX a cI cZ cJ pn px py ln lf lt lr sn sf st sr th hn qx qy mn mc mk mo mr) g12 grk gkc guq) kv_R_border hK hP rfl rfl rfl wd_662 ⟨Nat.le_of_ble_eq_true rfl, Nat.le_of_ble_eq_true rfl⟩ ⟨rfl, rfl⟩ rfl hl.1 rfl (Nat.le_of_ble_eq_true rfl) d_W_563 ⟨Nat.le_of_ble_eq_true rfl, Nat.le_of_ble_eq_true rfl⟩ (fun r563 hr563 => ?_)
  replace hr563 : r563 = nI (ec_bor mn kc (3 * mn)) := hr563
  subst hr563
  refine ec_icmp_eq (tgt := 630) hx hb d_W_566 rfl (Nat.lt_of_le_of_lt (ec_bor_le _) (by omega)) (Nat.lt_of_le_of_lt (ec_bor_le _) (by omega)) (fun h566 => ?_) (fun h566 => ?_)
  · replace hP : va_P (dC, dI) vwCl (wX a cI cZ cJ pn px py ln lf lt lr sn sf st sr th hn qx qy mn mc mk mo mr ++ wR b cI cZ cJ pn px py ln lf lt hn qx qy rc w1 w2 w3 rg mn kc kf kp) H := ec_flipP hP
    replace hD : va_D A (wX a cI cZ cJ pn px py ln lf lt lr sn sf st sr th hn qx qy mn mc mk mo mr ++ wR b cI cZ cJ pn px py ln lf lt hn qx qy rc w1 w2 w3 rg mn kc kf kp) := ec_flipD hD
    exact kk H locs ⟨pn, px, py, ln, lf, lt, lr, sn, sf, st, sr, th, hn, qx, qy, mn, mc, mk, mo, mr, rc, w1, w2, w3, rg, mn, kc, kf, kp, gS, g3, gM, gL, rfl, hP, hD, hS⟩
  · exact absurd (ec_bor_c gL.1 _ (Nat.le_refl _)) h566
set_option maxRecDepth 100000 in
set_option maxHeartbeats 4000000 in
theorem law_14 {p : Program} {e : Env} {s : State} {m : MethodId} {below : List Frame} {meth : Method} {c : Code} (l : Launch) {b0 L : Nat} {xs : Nat → Int32} (hL : L ≤ 2560) (C0 : lw_At p s m meth c b0 L xs) {A : Nat → Prop} (hbA : ¬ A b0) {dC : Nat → ClassId} {dI : Nat → Nat → Nat} {a b : Nat → Nat} {cI cZ cJ : ClassId} (hK : va_K (dC, dI) vwCl (ec_tys cI cZ cJ) s) {H : Heap} {locs : List Loc} (hLS : ec_LS dC dI a b cI cZ cJ A s.heap H locs) {ls : Array Slot} {i : Nat} (hl : lv_has ls 4 [(3, .int (nI i)), (0, .ref b0), (1, .ref (a 0)), (2, .ref (b 0))]) (hi : i + 5 ≤ L) (kk : ∀ (H : Heap) (locs : List Loc), ec_LS dC dI a b cI cZ cJ A s.heap H locs → W p l e room_1 s m #[Value.ref b0] below meth c H locs 36 851 (lw_Z below #[Value.ref b0] s) (F0 m 630 ls [])) : W p l e room_1 s m #[Value.ref b0] below meth c H locs 36 851 (lw_Z below #[Value.ref b0] s) (F0 m 571 ls []) := by
  obtain ⟨hx, hb, hr, hml, hown0, hts, hX, hbl, hlocks, hgv⟩ := C0
  have hown : s.vm.findClass "ExactMeshLaw" = some m.cls := hown0
  have htb : ∀ w ∈ ec_tbl, w.before #[Value.ref b0] s = true := fun w h => hts w (List.mem_filter.mp h).1
  obtain ⟨pn, px, py, ln, lf, lt, lr, sn, sf, st, sr, th, hn, qx, qy, mn, mc, mk, mo, mr, rc, w1, w2, w3, rg, rk, kc, kf, kp, gS, g3, gM, gL, hrk, hP, hD, hS⟩ := hLS
  subst hrk
  have g12 := gS.1
  have gN := gS.2.1
  have gln := gS.2.2.2.1
  have gmn := gM.1
  have grk := gM.1
  have gkc := ec_gkc gM gL
  have guq := ec_guq g12 gM gL
  refine lv_aload_n hx hb d_W_571 rfl (lv_at hl 2 rfl) ?_
  refine ec_vSi (C := "ExactMesh") (ci := 4) (q := (R_X, T_X, 5)) (q0 := 0) (As := []) (rest := []) ⟨hx, hb, hml, hown, htb⟩ (c_X_vertices l dC dI a cI cZ cJ pn px py ln lf lt lr sn sf st sr th hn qx qy mn mc mk mo mr (wR b cI cZ cJ pn px py ln lf lt hn qx qy rc w1 w2 w3 rg mn kc kf kp) ) kv_X_vertices hK hP rfl rfl rfl wd_431 ⟨Nat.le_of_ble_eq_true rfl, Nat.le_of_ble_eq_true rfl⟩ ⟨rfl, rfl⟩ rfl hl.1 rfl (Nat.le_of_ble_eq_true rfl) d_W_572 ⟨Nat.le_of_ble_eq_true rfl, Nat.le_of_ble_eq_true rfl⟩ (fun r572 hr572 => ?_)
  replace hr572 : r572 = nI pn := hr572
  subst hr572
  refine lv_aload_n hx hb d_W_575 rfl (lv_at hl 3 rfl) ?_
  replace hP : va_P (dC, dI) vwCl (wR b cI cZ cJ pn px py ln lf lt hn qx qy rc w1 w2 w3 rg mn kc kf kp ++ wX a cI cZ cJ pn px py ln lf lt lr sn sf st sr th hn qx qy mn mc mk mo mr) H := ec_flipP hP
  replace hD : va_D A (wR b cI cZ cJ pn px py ln lf lt hn qx qy rc w1 w2 w3 rg mn kc kf kp ++ wX a cI cZ cJ pn px py ln lf lt lr sn sf st sr th hn qx qy mn mc mk mo mr) := ec_flipD hD
  refine ec_vSi (C := "ExactMeshModel") (ci := 5) (q := (R_R, T_R, 18)) (q0 := 0) (As := []) (rest := [.int (nI pn)]) ⟨hx, hb, hml, hown, htb⟩ (c_R_vertices l dC dI b cI cZ cJ pn px py ln lf lt hn qx qy rc w1 w2 w3 rg mn kc kf kp (wX a cI cZ cJ pn px py ln lf lt lr sn sf st sr th hn qx qy mn mc mk mo mr) ) kv_R_vertices hK hP rfl rfl rfl wd_667 ⟨Nat.le_of_ble_eq_true rfl, Nat.le_of_ble_eq_true rfl⟩ ⟨rfl, rfl⟩ rfl hl.1 rfl (Nat.le_of_ble_eq_true rfl) d_W_576 ⟨Nat.le_of_ble_eq_true rfl, Nat.le_of_ble_eq_true rfl⟩ (fun r576 hr576 => ?_)
  replace hr576 : r576 = nI pn := hr576
  subst hr576
  refine ec_icmp_eq (tgt := 630) hx hb d_W_579 rfl (by omega) (by omega) (fun h579 => ?_) (fun h579 => ?_)
  · replace hP : va_P (dC, dI) vwCl (wX a cI cZ cJ pn px py ln lf lt lr sn sf st sr th hn qx qy mn mc mk mo mr ++ wR b cI cZ cJ pn px py ln lf lt hn qx qy rc w1 w2 w3 rg mn kc kf kp) H := ec_flipP hP
    replace hD : va_D A (wX a cI cZ cJ pn px py ln lf lt lr sn sf st sr th hn qx qy mn mc mk mo mr ++ wR b cI cZ cJ pn px py ln lf lt hn qx qy rc w1 w2 w3 rg mn kc kf kp) := ec_flipD hD
    exact kk H locs ⟨pn, px, py, ln, lf, lt, lr, sn, sf, st, sr, th, hn, qx, qy, mn, mc, mk, mo, mr, rc, w1, w2, w3, rg, mn, kc, kf, kp, gS, g3, gM, gL, rfl, hP, hD, hS⟩
  · exact absurd (rfl) h579
set_option maxRecDepth 100000 in
set_option maxHeartbeats 4000000 in
theorem law_15 {p : Program} {e : Env} {s : State} {m : MethodId} {below : List Frame} {meth : Method} {c : Code} (l : Launch) {b0 L : Nat} {xs : Nat → Int32} (hL : L ≤ 2560) (C0 : lw_At p s m meth c b0 L xs) {A : Nat → Prop} (hbA : ¬ A b0) {dC : Nat → ClassId} {dI : Nat → Nat → Nat} {a b : Nat → Nat} {cI cZ cJ : ClassId} (hK : va_K (dC, dI) vwCl (ec_tys cI cZ cJ) s) {H : Heap} {locs : List Loc} (hLS : ec_LS dC dI a b cI cZ cJ A s.heap H locs) {ls : Array Slot} {i : Nat} (hl : lv_has ls 4 [(3, .int (nI i)), (0, .ref b0), (1, .ref (a 0)), (2, .ref (b 0))]) (hi : i + 5 ≤ L) (kk : ∀ (H : Heap) (locs : List Loc), ec_LS dC dI a b cI cZ cJ A s.heap H locs → W p l e room_1 s m #[Value.ref b0] below meth c H locs 36 851 (lw_Z below #[Value.ref b0] s) (F0 m 630 ls [])) : W p l e room_1 s m #[Value.ref b0] below meth c H locs 36 851 (lw_Z below #[Value.ref b0] s) (F0 m 584 ls []) := by
  obtain ⟨hx, hb, hr, hml, hown0, hts, hX, hbl, hlocks, hgv⟩ := C0
  have hown : s.vm.findClass "ExactMeshLaw" = some m.cls := hown0
  have htb : ∀ w ∈ ec_tbl, w.before #[Value.ref b0] s = true := fun w h => hts w (List.mem_filter.mp h).1
  obtain ⟨pn, px, py, ln, lf, lt, lr, sn, sf, st, sr, th, hn, qx, qy, mn, mc, mk, mo, mr, rc, w1, w2, w3, rg, rk, kc, kf, kp, gS, g3, gM, gL, hrk, hP, hD, hS⟩ := hLS
  subst hrk
  have g12 := gS.1
  have gN := gS.2.1
  have gln := gS.2.2.2.1
  have gmn := gM.1
  have grk := gM.1
  have gkc := ec_gkc gM gL
  have guq := ec_guq g12 gM gL
  refine lv_aload_n hx hb d_W_584 rfl (lv_at hl 2 rfl) ?_
  refine ec_vSi (C := "ExactMesh") (ci := 4) (q := (R_X, T_X, 5)) (q0 := 0) (As := []) (rest := []) ⟨hx, hb, hml, hown, htb⟩ (c_X_segments l dC dI a cI cZ cJ pn px py ln lf lt lr sn sf st sr th hn qx qy mn mc mk mo mr (wR b cI cZ cJ pn px py ln lf lt hn qx qy rc w1 w2 w3 rg mn kc kf kp) ) kv_X_segments hK hP rfl rfl rfl wd_435 ⟨Nat.le_of_ble_eq_true rfl, Nat.le_of_ble_eq_true rfl⟩ ⟨rfl, rfl⟩ rfl hl.1 rfl (Nat.le_of_ble_eq_true rfl) d_W_585 ⟨Nat.le_of_ble_eq_true rfl, Nat.le_of_ble_eq_true rfl⟩ (fun r585 hr585 => ?_)
  replace hr585 : r585 = nI ln := hr585
  subst hr585
  refine lv_aload_n hx hb d_W_588 rfl (lv_at hl 3 rfl) ?_
  replace hP : va_P (dC, dI) vwCl (wR b cI cZ cJ pn px py ln lf lt hn qx qy rc w1 w2 w3 rg mn kc kf kp ++ wX a cI cZ cJ pn px py ln lf lt lr sn sf st sr th hn qx qy mn mc mk mo mr) H := ec_flipP hP
  replace hD : va_D A (wR b cI cZ cJ pn px py ln lf lt hn qx qy rc w1 w2 w3 rg mn kc kf kp ++ wX a cI cZ cJ pn px py ln lf lt lr sn sf st sr th hn qx qy mn mc mk mo mr) := ec_flipD hD
  refine ec_vSi (C := "ExactMeshModel") (ci := 5) (q := (R_R, T_R, 18)) (q0 := 0) (As := []) (rest := [.int (nI ln)]) ⟨hx, hb, hml, hown, htb⟩ (c_R_segments l dC dI b cI cZ cJ pn px py ln lf lt hn qx qy rc w1 w2 w3 rg mn kc kf kp (wX a cI cZ cJ pn px py ln lf lt lr sn sf st sr th hn qx qy mn mc mk mo mr) ) kv_R_segments hK hP rfl rfl rfl wd_671 ⟨Nat.le_of_ble_eq_true rfl, Nat.le_of_ble_eq_true rfl⟩ ⟨rfl, rfl⟩ rfl hl.1 rfl (Nat.le_of_ble_eq_true rfl) d_W_589 ⟨Nat.le_of_ble_eq_true rfl, Nat.le_of_ble_eq_true rfl⟩ (fun r589 hr589 => ?_)
  replace hr589 : r589 = nI ln := hr589
  subst hr589
  refine ec_icmp_eq (tgt := 630) hx hb d_W_592 rfl (by omega) (by omega) (fun h592 => ?_) (fun h592 => ?_)
  · replace hP : va_P (dC, dI) vwCl (wX a cI cZ cJ pn px py ln lf lt lr sn sf st sr th hn qx qy mn mc mk mo mr ++ wR b cI cZ cJ pn px py ln lf lt hn qx qy rc w1 w2 w3 rg mn kc kf kp) H := ec_flipP hP
    replace hD : va_D A (wX a cI cZ cJ pn px py ln lf lt lr sn sf st sr th hn qx qy mn mc mk mo mr ++ wR b cI cZ cJ pn px py ln lf lt hn qx qy rc w1 w2 w3 rg mn kc kf kp) := ec_flipD hD
    exact kk H locs ⟨pn, px, py, ln, lf, lt, lr, sn, sf, st, sr, th, hn, qx, qy, mn, mc, mk, mo, mr, rc, w1, w2, w3, rg, mn, kc, kf, kp, gS, g3, gM, gL, rfl, hP, hD, hS⟩
  · exact absurd (rfl) h592
set_option maxRecDepth 100000 in
set_option maxHeartbeats 4000000 in
theorem law_16 {p : Program} {e : Env} {s : State} {m : MethodId} {below : List Frame} {meth : Method} {c : Code} (l : Launch) {b0 L : Nat} {xs : Nat → Int32} (hL : L ≤ 2560) (C0 : lw_At p s m meth c b0 L xs) {A : Nat → Prop} (hbA : ¬ A b0) {dC : Nat → ClassId} {dI : Nat → Nat → Nat} {a b : Nat → Nat} {cI cZ cJ : ClassId} (hK : va_K (dC, dI) vwCl (ec_tys cI cZ cJ) s) {H : Heap} {locs : List Loc} (hLS : ec_LS dC dI a b cI cZ cJ A s.heap H locs) {ls : Array Slot} {i : Nat} (hl : lv_has ls 4 [(3, .int (nI i)), (0, .ref b0), (1, .ref (a 0)), (2, .ref (b 0))]) (hi : i + 5 ≤ L) (kk : ∀ (H : Heap) (locs : List Loc), ec_LS dC dI a b cI cZ cJ A s.heap H locs → W p l e room_1 s m #[Value.ref b0] below meth c H locs 36 851 (lw_Z below #[Value.ref b0] s) (F0 m 630 ls [])) : W p l e room_1 s m #[Value.ref b0] below meth c H locs 36 851 (lw_Z below #[Value.ref b0] s) (F0 m 597 ls []) := by
  obtain ⟨hx, hb, hr, hml, hown0, hts, hX, hbl, hlocks, hgv⟩ := C0
  have hown : s.vm.findClass "ExactMeshLaw" = some m.cls := hown0
  have htb : ∀ w ∈ ec_tbl, w.before #[Value.ref b0] s = true := fun w h => hts w (List.mem_filter.mp h).1
  obtain ⟨pn, px, py, ln, lf, lt, lr, sn, sf, st, sr, th, hn, qx, qy, mn, mc, mk, mo, mr, rc, w1, w2, w3, rg, rk, kc, kf, kp, gS, g3, gM, gL, hrk, hP, hD, hS⟩ := hLS
  subst hrk
  have g12 := gS.1
  have gN := gS.2.1
  have gln := gS.2.2.2.1
  have gmn := gM.1
  have grk := gM.1
  have gkc := ec_gkc gM gL
  have guq := ec_guq g12 gM gL
  refine lv_aload_n hx hb d_W_597 rfl (lv_at hl 2 rfl) ?_
  refine lv_aload_n hx hb d_W_598 rfl (lv_at hl 1 rfl) ?_
  refine lv_iload_n hx hb d_W_599 rfl (lv_at hl 0 rfl) ?_
  refine lv_iconst (v := nI 1) hx hb d_W_600 (by decide) ?_
  refine ec_iadd hx hb d_W_601 ?_
  refine ec_sld (i := i + 1) hx hb hX hbl hbA hS (by omega) (by omega) d_W_602 ?_
  refine lv_aload_n hx hb d_W_603 rfl (lv_at hl 1 rfl) ?_
  refine lv_iload_n hx hb d_W_604 rfl (lv_at hl 0 rfl) ?_
  refine lv_iconst (v := nI 2) hx hb d_W_605 (by decide) ?_
  refine ec_iadd hx hb d_W_606 ?_
  refine ec_sld (i := i + 2) hx hb hX hbl hbA hS (by omega) (by omega) d_W_607 ?_
  refine ec_vSi (C := "ExactMesh") (ci := 4) (q := (R_X, T_X, 5)) (q0 := 0) (As := [.int (xs (i + 1)), .int (xs (i + 2))]) (rest := []) ⟨hx, hb, hml, hown, htb⟩ (c_X_place l dC dI a cI cZ cJ pn px py ln lf lt lr sn sf st sr th hn qx qy mn mc mk mo mr (wR b cI cZ cJ pn px py ln lf lt hn qx qy rc w1 w2 w3 rg mn kc kf kp) (xs (i + 1)) (xs (i + 2)) g12) kv_X_place hK hP rfl rfl rfl wd_439 ⟨Nat.le_of_ble_eq_true rfl, Nat.le_of_ble_eq_true rfl⟩ ⟨rfl, rfl⟩ rfl hl.1 rfl (Nat.le_of_ble_eq_true rfl) d_W_608 ⟨Nat.le_of_ble_eq_true rfl, Nat.le_of_ble_eq_true rfl⟩ (fun r608 hr608 => ?_)
  replace hr608 : r608 = ec_plaF pn px py (xs (i + 1)) (xs (i + 2)) := hr608
  subst hr608
  refine lv_aload_n hx hb d_W_611 rfl (lv_at hl 3 rfl) ?_
  refine lv_aload_n hx hb d_W_612 rfl (lv_at hl 1 rfl) ?_
  refine lv_iload_n hx hb d_W_613 rfl (lv_at hl 0 rfl) ?_
  refine lv_iconst (v := nI 1) hx hb d_W_614 (by decide) ?_
  refine ec_iadd hx hb d_W_615 ?_
  refine ec_sld (i := i + 1) hx hb hX hbl hbA hS (by omega) (by omega) d_W_616 ?_
  refine lv_aload_n hx hb d_W_617 rfl (lv_at hl 1 rfl) ?_
  refine lv_iload_n hx hb d_W_618 rfl (lv_at hl 0 rfl) ?_
  refine lv_iconst (v := nI 2) hx hb d_W_619 (by decide) ?_
  refine ec_iadd hx hb d_W_620 ?_
  refine ec_sld (i := i + 2) hx hb hX hbl hbA hS (by omega) (by omega) d_W_621 ?_
  replace hP : va_P (dC, dI) vwCl (wR b cI cZ cJ pn px py ln lf lt hn qx qy rc w1 w2 w3 rg mn kc kf kp ++ wX a cI cZ cJ pn px py ln lf lt lr sn sf st sr th hn qx qy mn mc mk mo mr) H := ec_flipP hP
  replace hD : va_D A (wR b cI cZ cJ pn px py ln lf lt hn qx qy rc w1 w2 w3 rg mn kc kf kp ++ wX a cI cZ cJ pn px py ln lf lt lr sn sf st sr th hn qx qy mn mc mk mo mr) := ec_flipD hD
  refine ec_vSi (C := "ExactMeshModel") (ci := 5) (q := (R_R, T_R, 18)) (q0 := 0) (As := [.int (xs (i + 1)), .int (xs (i + 2))]) (rest := [.int (ec_plaF pn px py (xs (i + 1)) (xs (i + 2)))]) ⟨hx, hb, hml, hown, htb⟩ (c_R_place l dC dI b cI cZ cJ pn px py ln lf lt hn qx qy rc w1 w2 w3 rg mn kc kf kp (wX a cI cZ cJ pn px py ln lf lt lr sn sf st sr th hn qx qy mn mc mk mo mr) (xs (i + 1)) (xs (i + 2)) g12) kv_R_place hK hP rfl rfl rfl wd_675 ⟨Nat.le_of_ble_eq_true rfl, Nat.le_of_ble_eq_true rfl⟩ ⟨rfl, rfl⟩ rfl hl.1 rfl (Nat.le_of_ble_eq_true rfl) d_W_622 ⟨Nat.le_of_ble_eq_true rfl, Nat.le_of_ble_eq_true rfl⟩ (fun r622 hr622 => ?_)
  replace hr622 : r622 = ec_plaF pn px py (xs (i + 1)) (xs (i + 2)) := hr622
  subst hr622
  refine lv_icmp_eq (tgt := 630) hx hb d_W_625 rfl (fun h625 => ?_) (fun h625 => ?_)
  · replace hP : va_P (dC, dI) vwCl (wX a cI cZ cJ pn px py ln lf lt lr sn sf st sr th hn qx qy mn mc mk mo mr ++ wR b cI cZ cJ pn px py ln lf lt hn qx qy rc w1 w2 w3 rg mn kc kf kp) H := ec_flipP hP
    replace hD : va_D A (wX a cI cZ cJ pn px py ln lf lt lr sn sf st sr th hn qx qy mn mc mk mo mr ++ wR b cI cZ cJ pn px py ln lf lt hn qx qy rc w1 w2 w3 rg mn kc kf kp) := ec_flipD hD
    exact kk H locs ⟨pn, px, py, ln, lf, lt, lr, sn, sf, st, sr, th, hn, qx, qy, mn, mc, mk, mo, mr, rc, w1, w2, w3, rg, mn, kc, kf, kp, gS, g3, gM, gL, rfl, hP, hD, hS⟩
  · exact absurd (rfl) h625
