set_option maxRecDepth 100000 in
set_option maxHeartbeats 4000000 in
theorem law_0 {p : Program} {e : Env} {s : State} {m : MethodId} {below : List Frame} {meth : Method} {c : Code} (l : Launch) {b0 L : Nat} {xs : Nat → Int32} (hL : L ≤ 2560) (C0 : lw_At p s m meth c b0 L xs) {A : Nat → Prop} (hbA : ¬ A b0) {dC : Nat → ClassId} {dI : Nat → Nat → Nat} {a b : Nat → Nat} {cI cZ cJ : ClassId} (hK : va_K (dC, dI) vwCl (ec_tys cI cZ cJ) s) {H : Heap} {locs : List Loc} (hLS : ec_LS dC dI a b cI cZ cJ A s.heap H locs) {ls : Array Slot} {i : Nat} (hl : lv_has ls 4 [(3, .int (nI i)), (0, .ref b0), (1, .ref (a 0)), (2, .ref (b 0))]) (hi : i + 5 ≤ L) (kk : ∀ (H : Heap) (locs : List Loc), ec_LS dC dI a b cI cZ cJ A s.heap H locs → W p l e room_1 s m #[Value.ref b0] below meth c H locs 36 851 (lw_Z below #[Value.ref b0] s) (F0 m 630 ls [])) : W p l e room_1 s m #[Value.ref b0] below meth c H locs 36 851 (lw_Z below #[Value.ref b0] s) (F0 m 116 ls []) := by
  obtain ⟨hx, hb, hr, hml, hown0, hts, hX, hbl, hlocks, hgv⟩ := C0
  have hown : s.vm.findClass "ExactMeshLaw" = some m.cls := hown0
  have htb : ∀ w ∈ ec_tbl, w.before #[Value.ref b0] s = true := fun w h => hts w (List.mem_filter.mp h).1
  obtain ⟨pn, px, py, ln, lf, lt, lr, sn, sf, st, sr, th, hn, qx, qy, mn, mc, mk, mo, mr, rc, w1, w2, w3, rg, rk, kc, kf, kp, gS, g3, gM, gL, hrk, hP, hD, hS⟩ := hLS
  subst hrk
  have g12 := gS.1
  have gN := gS.2.1
  have gln := gS.2.2.2.1
  have gmn := gM.1
  have grk := gM.1
  have gkc := ec_gkc gM gL
  have guq := ec_guq g12 gM gL
  refine lv_aload_n hx hb d_W_116 rfl (lv_at hl 2 rfl) ?_
  refine lv_aload_n hx hb d_W_117 rfl (lv_at hl 1 rfl) ?_
  refine lv_iload_n hx hb d_W_118 rfl (lv_at hl 0 rfl) ?_
  refine lv_iconst (v := nI 1) hx hb d_W_119 (by decide) ?_
  refine ec_iadd hx hb d_W_120 ?_
  refine ec_sld (i := i + 1) hx hb hX hbl hbA hS (by omega) (by omega) d_W_121 ?_
  refine lv_aload_n hx hb d_W_122 rfl (lv_at hl 1 rfl) ?_
  refine lv_iload_n hx hb d_W_123 rfl (lv_at hl 0 rfl) ?_
  refine lv_iconst (v := nI 2) hx hb d_W_124 (by decide) ?_
  refine ec_iadd hx hb d_W_125 ?_
  refine ec_sld (i := i + 2) hx hb hX hbl hbA hS (by omega) (by omega) d_W_126 ?_
  refine ec_vQi (C := "ExactMesh") (ci := 4) (q := (R_X, T_X, 5)) (q0 := 0) (As := [.int (xs (i + 1)), .int (xs (i + 2))]) (rest := []) ⟨hx, hb, hml, hown, htb⟩ (c_X_vertex l dC dI a cI cZ cJ pn px py ln lf lt lr sn sf st sr th hn qx qy mn mc mk mo mr (wR b cI cZ cJ pn px py ln lf lt hn qx qy rc w1 w2 w3 rg mn kc kf kp) (xs (i + 1)) (xs (i + 2)) gS A hD) kv_X_vertex hK hP rfl rfl rfl hS wd_129 ⟨Nat.le_of_ble_eq_true rfl, Nat.le_of_ble_eq_true rfl⟩ ⟨rfl, rfl⟩ rfl hl.1 rfl (Nat.le_of_ble_eq_true rfl) d_W_127 ⟨Nat.le_of_ble_eq_true rfl, Nat.le_of_ble_eq_true rfl⟩ (fun r127 ur127 H locs hr127 hP hS => ?_)
  replace hr127 : (r127, ur127) = ec_vertF pn px py ln lf lt (xs (i + 1)) (xs (i + 2)) := hr127
  replace hP : va_P (dC, dI) vwCl (wX a cI cZ cJ ur127.1 ur127.2.1 ur127.2.2 ln lf lt lr sn sf st sr th hn qx qy mn mc mk mo mr ++ wR b cI cZ cJ pn px py ln lf lt hn qx qy rc w1 w2 w3 rg mn kc kf kp) H := hP
  replace hD : va_D A (wX a cI cZ cJ ur127.1 ur127.2.1 ur127.2.2 ln lf lt lr sn sf st sr th hn qx qy mn mc mk mo mr ++ wR b cI cZ cJ pn px py ln lf lt hn qx qy rc w1 w2 w3 rg mn kc kf kp) := ec_Dk hD rfl
  refine lv_aload_n hx hb d_W_130 rfl (lv_at hl 3 rfl) ?_
  refine lv_aload_n hx hb d_W_131 rfl (lv_at hl 1 rfl) ?_
  refine lv_iload_n hx hb d_W_132 rfl (lv_at hl 0 rfl) ?_
  refine lv_iconst (v := nI 1) hx hb d_W_133 (by decide) ?_
  refine ec_iadd hx hb d_W_134 ?_
  refine ec_sld (i := i + 1) hx hb hX hbl hbA hS (by omega) (by omega) d_W_135 ?_
  refine lv_aload_n hx hb d_W_136 rfl (lv_at hl 1 rfl) ?_
  refine lv_iload_n hx hb d_W_137 rfl (lv_at hl 0 rfl) ?_
  refine lv_iconst (v := nI 2) hx hb d_W_138 (by decide) ?_
  refine ec_iadd hx hb d_W_139 ?_
  refine ec_sld (i := i + 2) hx hb hX hbl hbA hS (by omega) (by omega) d_W_140 ?_
  replace hP : va_P (dC, dI) vwCl (wR b cI cZ cJ pn px py ln lf lt hn qx qy rc w1 w2 w3 rg mn kc kf kp ++ wX a cI cZ cJ ur127.1 ur127.2.1 ur127.2.2 ln lf lt lr sn sf st sr th hn qx qy mn mc mk mo mr) H := ec_flipP hP
  replace hD : va_D A (wR b cI cZ cJ pn px py ln lf lt hn qx qy rc w1 w2 w3 rg mn kc kf kp ++ wX a cI cZ cJ ur127.1 ur127.2.1 ur127.2.2 ln lf lt lr sn sf st sr th hn qx qy mn mc mk mo mr) := ec_flipD hD
  refine ec_vQi (C := "ExactMeshModel") (ci := 5) (q := (R_R, T_R, 18)) (q0 := 0) (As := [.int (xs (i + 1)), .int (xs (i + 2))]) (rest := [.int r127]) ⟨hx, hb, hml, hown, htb⟩ (c_R_vertex l dC dI b cI cZ cJ pn px py ln lf lt hn qx qy rc w1 w2 w3 rg mn kc kf kp (wX a cI cZ cJ ur127.1 ur127.2.1 ur127.2.2 ln lf lt lr sn sf st sr th hn qx qy mn mc mk mo mr) (xs (i + 1)) (xs (i + 2)) lr gS A hD) kv_R_vertex hK hP rfl rfl rfl hS wd_505 ⟨Nat.le_of_ble_eq_true rfl, Nat.le_of_ble_eq_true rfl⟩ ⟨rfl, rfl⟩ rfl hl.1 rfl (Nat.le_of_ble_eq_true rfl) d_W_141 ⟨Nat.le_of_ble_eq_true rfl, Nat.le_of_ble_eq_true rfl⟩ (fun r141 ur141 H locs hr141 hP hS => ?_)
  replace hr141 : (r141, ur141) = ec_vertF pn px py ln lf lt (xs (i + 1)) (xs (i + 2)) := hr141
  replace hP : va_P (dC, dI) vwCl (wR b cI cZ cJ ur141.1 ur141.2.1 ur141.2.2 ln lf lt hn qx qy rc w1 w2 w3 rg mn kc kf kp ++ wX a cI cZ cJ ur127.1 ur127.2.1 ur127.2.2 ln lf lt lr sn sf st sr th hn qx qy mn mc mk mo mr) H := hP
  replace hD : va_D A (wR b cI cZ cJ ur141.1 ur141.2.1 ur141.2.2 ln lf lt hn qx qy rc w1 w2 w3 rg mn kc kf kp ++ wX a cI cZ cJ ur127.1 ur127.2.1 ur127.2.2 ln lf lt lr sn sf st sr th hn qx qy mn mc mk mo mr) := ec_Dk hD rfl
  refine lv_icmp_eq (tgt := 630) hx hb d_W_144 rfl (fun h144 => ?_) (fun h144 => ?_)
  · replace hP : va_P (dC, dI) vwCl (wX a cI cZ cJ ur127.1 ur127.2.1 ur127.2.2 ln lf lt lr sn sf st sr th hn qx qy mn mc mk mo mr ++ wR b cI cZ cJ ur141.1 ur141.2.1 ur141.2.2 ln lf lt hn qx qy rc w1 w2 w3 rg mn kc kf kp) H := ec_flipP hP
    replace hD : va_D A (wX a cI cZ cJ ur127.1 ur127.2.1 ur127.2.2 ln lf lt lr sn sf st sr th hn qx qy mn mc mk mo mr ++ wR b cI cZ cJ ur141.1 ur141.2.1 ur141.2.2 ln lf lt hn qx qy rc w1 w2 w3 rg mn kc kf kp) := ec_flipD hD
    obtain ⟨e1, e2⟩ := Prod.mk.inj (hr127.trans hr141.symm)
    subst e2
    have hnn := ec_vertF_SI gS hr127
    exact kk H locs ⟨ur127.1, ur127.2.1, ur127.2.2, ln, lf, lt, lr, sn, sf, st, sr, th, hn, qx, qy, mn, mc, mk, mo, mr, rc, w1, w2, w3, rg, mn, kc, kf, kp, hnn.1, g3, ec_MI_mono gM hnn.2, gL, rfl, hP, hD, hS⟩
  · exact absurd ((Prod.mk.inj (hr127.trans hr141.symm)).1) h144
set_option maxRecDepth 100000 in
set_option maxHeartbeats 4000000 in
theorem law_1 {p : Program} {e : Env} {s : State} {m : MethodId} {below : List Frame} {meth : Method} {c : Code} (l : Launch) {b0 L : Nat} {xs : Nat → Int32} (hL : L ≤ 2560) (C0 : lw_At p s m meth c b0 L xs) {A : Nat → Prop} (hbA : ¬ A b0) {dC : Nat → ClassId} {dI : Nat → Nat → Nat} {a b : Nat → Nat} {cI cZ cJ : ClassId} (hK : va_K (dC, dI) vwCl (ec_tys cI cZ cJ) s) {H : Heap} {locs : List Loc} (hLS : ec_LS dC dI a b cI cZ cJ A s.heap H locs) {ls : Array Slot} {i : Nat} (hl : lv_has ls 4 [(3, .int (nI i)), (0, .ref b0), (1, .ref (a 0)), (2, .ref (b 0))]) (hi : i + 5 ≤ L) (kk : ∀ (H : Heap) (locs : List Loc), ec_LS dC dI a b cI cZ cJ A s.heap H locs → W p l e room_1 s m #[Value.ref b0] below meth c H locs 36 851 (lw_Z below #[Value.ref b0] s) (F0 m 630 ls [])) : W p l e room_1 s m #[Value.ref b0] below meth c H locs 36 851 (lw_Z below #[Value.ref b0] s) (F0 m 149 ls []) := by
  obtain ⟨hx, hb, hr, hml, hown0, hts, hX, hbl, hlocks, hgv⟩ := C0
  have hown : s.vm.findClass "ExactMeshLaw" = some m.cls := hown0
  have htb : ∀ w ∈ ec_tbl, w.before #[Value.ref b0] s = true := fun w h => hts w (List.mem_filter.mp h).1
  obtain ⟨pn, px, py, ln, lf, lt, lr, sn, sf, st, sr, th, hn, qx, qy, mn, mc, mk, mo, mr, rc, w1, w2, w3, rg, rk, kc, kf, kp, gS, g3, gM, gL, hrk, hP, hD, hS⟩ := hLS
  subst hrk
  have g12 := gS.1
  have gN := gS.2.1
  have gln := gS.2.2.2.1
  have gmn := gM.1
  have grk := gM.1
  have gkc := ec_gkc gM gL
  have guq := ec_guq g12 gM gL
  refine lv_aload_n hx hb d_W_149 rfl (lv_at hl 2 rfl) ?_
  refine lv_aload_n hx hb d_W_150 rfl (lv_at hl 1 rfl) ?_
  refine lv_iload_n hx hb d_W_151 rfl (lv_at hl 0 rfl) ?_
  refine lv_iconst (v := nI 1) hx hb d_W_152 (by decide) ?_
  refine ec_iadd hx hb d_W_153 ?_
  refine ec_sld (i := i + 1) hx hb hX hbl hbA hS (by omega) (by omega) d_W_154 ?_
  refine lv_aload_n hx hb d_W_155 rfl (lv_at hl 1 rfl) ?_
  refine lv_iload_n hx hb d_W_156 rfl (lv_at hl 0 rfl) ?_
  refine lv_iconst (v := nI 2) hx hb d_W_157 (by decide) ?_
  refine ec_iadd hx hb d_W_158 ?_
  refine ec_sld (i := i + 2) hx hb hX hbl hbA hS (by omega) (by omega) d_W_159 ?_
  refine ec_vQi (C := "ExactMesh") (ci := 4) (q := (R_X, T_X, 5)) (q0 := 0) (As := [.int (xs (i + 1)), .int (xs (i + 2))]) (rest := []) ⟨hx, hb, hml, hown, htb⟩ (c_X_segment l dC dI a cI cZ cJ pn px py ln lf lt lr sn sf st sr th hn qx qy mn mc mk mo mr (wR b cI cZ cJ pn px py ln lf lt hn qx qy rc w1 w2 w3 rg mn kc kf kp) (xs (i + 1)) (xs (i + 2)) gS A hD) kv_X_segment hK hP rfl rfl rfl hS wd_169 ⟨Nat.le_of_ble_eq_true rfl, Nat.le_of_ble_eq_true rfl⟩ ⟨rfl, rfl⟩ rfl hl.1 rfl (Nat.le_of_ble_eq_true rfl) d_W_160 ⟨Nat.le_of_ble_eq_true rfl, Nat.le_of_ble_eq_true rfl⟩ (fun r160 ur160 H locs hr160 hP hS => ?_)
  replace hr160 : (r160, (ur160.1, ur160.2.1, ur160.2.2.1)) = ec_segF pn px py ln lf lt (xs (i + 1)) (xs (i + 2)) ∧ ec_SI pn px py ur160.1 ur160.2.1 ur160.2.2.1 ur160.2.2.2 := hr160
  replace hP : va_P (dC, dI) vwCl (wX a cI cZ cJ pn px py ur160.1 ur160.2.1 ur160.2.2.1 ur160.2.2.2 sn sf st sr th hn qx qy mn mc mk mo mr ++ wR b cI cZ cJ pn px py ln lf lt hn qx qy rc w1 w2 w3 rg mn kc kf kp) H := hP
  replace hD : va_D A (wX a cI cZ cJ pn px py ur160.1 ur160.2.1 ur160.2.2.1 ur160.2.2.2 sn sf st sr th hn qx qy mn mc mk mo mr ++ wR b cI cZ cJ pn px py ln lf lt hn qx qy rc w1 w2 w3 rg mn kc kf kp) := ec_Dk hD rfl
  refine lv_aload_n hx hb d_W_163 rfl (lv_at hl 3 rfl) ?_
  refine lv_aload_n hx hb d_W_164 rfl (lv_at hl 1 rfl) ?_
  refine lv_iload_n hx hb d_W_165 rfl (lv_at hl 0 rfl) ?_
  refine lv_iconst (v := nI 1) hx hb d_W_166 (by decide) ?_
  refine ec_iadd hx hb d_W_167 ?_
  refine ec_sld (i := i + 1) hx hb hX hbl hbA hS (by omega) (by omega) d_W_168 ?_
  refine lv_aload_n hx hb d_W_169 rfl (lv_at hl 1 rfl) ?_
  refine lv_iload_n hx hb d_W_170 rfl (lv_at hl 0 rfl) ?_
  refine lv_iconst (v := nI 2) hx hb d_W_171 (by decide) ?_
  refine ec_iadd hx hb d_W_172 ?_
  refine ec_sld (i := i + 2) hx hb hX hbl hbA hS (by omega) (by omega) d_W_173 ?_
  replace hP : va_P (dC, dI) vwCl (wR b cI cZ cJ pn px py ln lf lt hn qx qy rc w1 w2 w3 rg mn kc kf kp ++ wX a cI cZ cJ pn px py ur160.1 ur160.2.1 ur160.2.2.1 ur160.2.2.2 sn sf st sr th hn qx qy mn mc mk mo mr) H := ec_flipP hP
  replace hD : va_D A (wR b cI cZ cJ pn px py ln lf lt hn qx qy rc w1 w2 w3 rg mn kc kf kp ++ wX a cI cZ cJ pn px py ur160.1 ur160.2.1 ur160.2.2.1 ur160.2.2.2 sn sf st sr th hn qx qy mn mc mk mo mr) := ec_flipD hD
  refine ec_vQi (C := "ExactMeshModel") (ci := 5) (q := (R_R, T_R, 18)) (q0 := 0) (As := [.int (xs (i + 1)), .int (xs (i + 2))]) (rest := [.int r160]) ⟨hx, hb, hml, hown, htb⟩ (c_R_segment l dC dI b cI cZ cJ pn px py ln lf lt hn qx qy rc w1 w2 w3 rg mn kc kf kp (wX a cI cZ cJ pn px py ur160.1 ur160.2.1 ur160.2.2.1 ur160.2.2.2 sn sf st sr th hn qx qy mn mc mk mo mr) (xs (i + 1)) (xs (i + 2)) lr gS A hD) kv_R_segment hK hP rfl rfl rfl hS wd_525 ⟨Nat.le_of_ble_eq_true rfl, Nat.le_of_ble_eq_true rfl⟩ ⟨rfl, rfl⟩ rfl hl.1 rfl (Nat.le_of_ble_eq_true rfl) d_W_174 ⟨Nat.le_of_ble_eq_true rfl, Nat.le_of_ble_eq_true rfl⟩ (fun r174 ur174 H locs hr174 hP hS => ?_)
  replace hr174 : (r174, ur174) = ec_segF pn px py ln lf lt (xs (i + 1)) (xs (i + 2)) := hr174
  replace hP : va_P (dC, dI) vwCl (wR b cI cZ cJ pn px py ur174.1 ur174.2.1 ur174.2.2 hn qx qy rc w1 w2 w3 rg mn kc kf kp ++ wX a cI cZ cJ pn px py ur160.1 ur160.2.1 ur160.2.2.1 ur160.2.2.2 sn sf st sr th hn qx qy mn mc mk mo mr) H := hP
  replace hD : va_D A (wR b cI cZ cJ pn px py ur174.1 ur174.2.1 ur174.2.2 hn qx qy rc w1 w2 w3 rg mn kc kf kp ++ wX a cI cZ cJ pn px py ur160.1 ur160.2.1 ur160.2.2.1 ur160.2.2.2 sn sf st sr th hn qx qy mn mc mk mo mr) := ec_Dk hD rfl
  refine lv_icmp_eq (tgt := 630) hx hb d_W_177 rfl (fun h177 => ?_) (fun h177 => ?_)
  · replace hP : va_P (dC, dI) vwCl (wX a cI cZ cJ pn px py ur160.1 ur160.2.1 ur160.2.2.1 ur160.2.2.2 sn sf st sr th hn qx qy mn mc mk mo mr ++ wR b cI cZ cJ pn px py ur174.1 ur174.2.1 ur174.2.2 hn qx qy rc w1 w2 w3 rg mn kc kf kp) H := ec_flipP hP
    replace hD : va_D A (wX a cI cZ cJ pn px py ur160.1 ur160.2.1 ur160.2.2.1 ur160.2.2.2 sn sf st sr th hn qx qy mn mc mk mo mr ++ wR b cI cZ cJ pn px py ur174.1 ur174.2.1 ur174.2.2 hn qx qy rc w1 w2 w3 rg mn kc kf kp) := ec_flipD hD
    obtain ⟨e1, e2⟩ := Prod.mk.inj (hr160.1.trans hr174.symm)
    subst e2
    exact kk H locs ⟨pn, px, py, ur160.1, ur160.2.1, ur160.2.2.1, ur160.2.2.2, sn, sf, st, sr, th, hn, qx, qy, mn, mc, mk, mo, mr, rc, w1, w2, w3, rg, mn, kc, kf, kp, hr160.2, g3, gM, gL, rfl, hP, hD, hS⟩
  · exact absurd ((Prod.mk.inj (hr160.1.trans hr174.symm)).1) h177
set_option maxRecDepth 100000 in
set_option maxHeartbeats 4000000 in
theorem law_2 {p : Program} {e : Env} {s : State} {m : MethodId} {below : List Frame} {meth : Method} {c : Code} (l : Launch) {b0 L : Nat} {xs : Nat → Int32} (hL : L ≤ 2560) (C0 : lw_At p s m meth c b0 L xs) {A : Nat → Prop} (hbA : ¬ A b0) {dC : Nat → ClassId} {dI : Nat → Nat → Nat} {a b : Nat → Nat} {cI cZ cJ : ClassId} (hK : va_K (dC, dI) vwCl (ec_tys cI cZ cJ) s) {H : Heap} {locs : List Loc} (hLS : ec_LS dC dI a b cI cZ cJ A s.heap H locs) {ls : Array Slot} {i : Nat} (hl : lv_has ls 4 [(3, .int (nI i)), (0, .ref b0), (1, .ref (a 0)), (2, .ref (b 0))]) (hi : i + 5 ≤ L) (kk : ∀ (H : Heap) (locs : List Loc), ec_LS dC dI a b cI cZ cJ A s.heap H locs → W p l e room_1 s m #[Value.ref b0] below meth c H locs 36 851 (lw_Z below #[Value.ref b0] s) (F0 m 630 ls [])) : W p l e room_1 s m #[Value.ref b0] below meth c H locs 36 851 (lw_Z below #[Value.ref b0] s) (F0 m 182 ls []) := by
  obtain ⟨hx, hb, hr, hml, hown0, hts, hX, hbl, hlocks, hgv⟩ := C0
  have hown : s.vm.findClass "ExactMeshLaw" = some m.cls := hown0
  have htb : ∀ w ∈ ec_tbl, w.before #[Value.ref b0] s = true := fun w h => hts w (List.mem_filter.mp h).1
  obtain ⟨pn, px, py, ln, lf, lt, lr, sn, sf, st, sr, th, hn, qx, qy, mn, mc, mk, mo, mr, rc, w1, w2, w3, rg, rk, kc, kf, kp, gS, g3, gM, gL, hrk, hP, hD, hS⟩ := hLS
  subst hrk
  have g12 := gS.1
  have gN := gS.2.1
  have gln := gS.2.2.2.1
  have gmn := gM.1
  have grk := gM.1
  have gkc := ec_gkc gM gL
  have guq := ec_guq g12 gM gL
  refine lv_aload_n hx hb d_W_182 rfl (lv_at hl 2 rfl) ?_
  refine lv_aload_n hx hb d_W_183 rfl (lv_at hl 1 rfl) ?_
  refine lv_iload_n hx hb d_W_184 rfl (lv_at hl 0 rfl) ?_
  refine lv_iconst (v := nI 1) hx hb d_W_185 (by decide) ?_
  refine ec_iadd hx hb d_W_186 ?_
  refine ec_sld (i := i + 1) hx hb hX hbl hbA hS (by omega) (by omega) d_W_187 ?_
  refine lv_aload_n hx hb d_W_188 rfl (lv_at hl 1 rfl) ?_
  refine lv_iload_n hx hb d_W_189 rfl (lv_at hl 0 rfl) ?_
  refine lv_iconst (v := nI 2) hx hb d_W_190 (by decide) ?_
  refine ec_iadd hx hb d_W_191 ?_
  refine ec_sld (i := i + 2) hx hb hX hbl hbA hS (by omega) (by omega) d_W_192 ?_
  refine ec_vQi (C := "ExactMesh") (ci := 4) (q := (R_X, T_X, 5)) (q0 := 0) (As := [.int (xs (i + 1)), .int (xs (i + 2))]) (rest := []) ⟨hx, hb, hml, hown, htb⟩ (c_X_hole l dC dI a cI cZ cJ pn px py ln lf lt lr sn sf st sr th hn qx qy mn mc mk mo mr (wR b cI cZ cJ pn px py ln lf lt hn qx qy rc w1 w2 w3 rg mn kc kf kp) (xs (i + 1)) (xs (i + 2)) g3 A hD) kv_X_hole hK hP rfl rfl rfl hS wd_210 ⟨Nat.le_of_ble_eq_true rfl, Nat.le_of_ble_eq_true rfl⟩ ⟨rfl, rfl⟩ rfl hl.1 rfl (Nat.le_of_ble_eq_true rfl) d_W_193 ⟨Nat.le_of_ble_eq_true rfl, Nat.le_of_ble_eq_true rfl⟩ (fun r193 ur193 H locs hr193 hP hS => ?_)
  replace hr193 : (r193, ur193) = ec_holF hn qx qy (xs (i + 1)) (xs (i + 2)) := hr193
  replace hP : va_P (dC, dI) vwCl (wX a cI cZ cJ pn px py ln lf lt lr sn sf st sr th ur193.1 ur193.2.1 ur193.2.2 mn mc mk mo mr ++ wR b cI cZ cJ pn px py ln lf lt hn qx qy rc w1 w2 w3 rg mn kc kf kp) H := hP
  replace hD : va_D A (wX a cI cZ cJ pn px py ln lf lt lr sn sf st sr th ur193.1 ur193.2.1 ur193.2.2 mn mc mk mo mr ++ wR b cI cZ cJ pn px py ln lf lt hn qx qy rc w1 w2 w3 rg mn kc kf kp) := ec_Dk hD rfl
  refine lv_aload_n hx hb d_W_196 rfl (lv_at hl 3 rfl) ?_
  refine lv_aload_n hx hb d_W_197 rfl (lv_at hl 1 rfl) ?_
  refine lv_iload_n hx hb d_W_198 rfl (lv_at hl 0 rfl) ?_
  refine lv_iconst (v := nI 1) hx hb d_W_199 (by decide) ?_
  refine ec_iadd hx hb d_W_200 ?_
  refine ec_sld (i := i + 1) hx hb hX hbl hbA hS (by omega) (by omega) d_W_201 ?_
  refine lv_aload_n hx hb d_W_202 rfl (lv_at hl 1 rfl) ?_
  refine lv_iload_n hx hb d_W_203 rfl (lv_at hl 0 rfl) ?_
  refine lv_iconst (v := nI 2) hx hb d_W_204 (by decide) ?_
  refine ec_iadd hx hb d_W_205 ?_
  refine ec_sld (i := i + 2) hx hb hX hbl hbA hS (by omega) (by omega) d_W_206 ?_
  replace hP : va_P (dC, dI) vwCl (wR b cI cZ cJ pn px py ln lf lt hn qx qy rc w1 w2 w3 rg mn kc kf kp ++ wX a cI cZ cJ pn px py ln lf lt lr sn sf st sr th ur193.1 ur193.2.1 ur193.2.2 mn mc mk mo mr) H := ec_flipP hP
  replace hD : va_D A (wR b cI cZ cJ pn px py ln lf lt hn qx qy rc w1 w2 w3 rg mn kc kf kp ++ wX a cI cZ cJ pn px py ln lf lt lr sn sf st sr th ur193.1 ur193.2.1 ur193.2.2 mn mc mk mo mr) := ec_flipD hD
  refine ec_vQi (C := "ExactMeshModel") (ci := 5) (q := (R_R, T_R, 18)) (q0 := 0) (As := [.int (xs (i + 1)), .int (xs (i + 2))]) (rest := [.int r193]) ⟨hx, hb, hml, hown, htb⟩ (c_R_hole l dC dI b cI cZ cJ pn px py ln lf lt hn qx qy rc w1 w2 w3 rg mn kc kf kp (wX a cI cZ cJ pn px py ln lf lt lr sn sf st sr th ur193.1 ur193.2.1 ur193.2.2 mn mc mk mo mr) (xs (i + 1)) (xs (i + 2)) g3 A hD) kv_R_hole hK hP rfl rfl rfl hS wd_548 ⟨Nat.le_of_ble_eq_true rfl, Nat.le_of_ble_eq_true rfl⟩ ⟨rfl, rfl⟩ rfl hl.1 rfl (Nat.le_of_ble_eq_true rfl) d_W_207 ⟨Nat.le_of_ble_eq_true rfl, Nat.le_of_ble_eq_true rfl⟩ (fun r207 ur207 H locs hr207 hP hS => ?_)
  replace hr207 : (r207, ur207) = ec_holF hn qx qy (xs (i + 1)) (xs (i + 2)) := hr207
  replace hP : va_P (dC, dI) vwCl (wR b cI cZ cJ pn px py ln lf lt ur207.1 ur207.2.1 ur207.2.2 rc w1 w2 w3 rg mn kc kf kp ++ wX a cI cZ cJ pn px py ln lf lt lr sn sf st sr th ur193.1 ur193.2.1 ur193.2.2 mn mc mk mo mr) H := hP
  replace hD : va_D A (wR b cI cZ cJ pn px py ln lf lt ur207.1 ur207.2.1 ur207.2.2 rc w1 w2 w3 rg mn kc kf kp ++ wX a cI cZ cJ pn px py ln lf lt lr sn sf st sr th ur193.1 ur193.2.1 ur193.2.2 mn mc mk mo mr) := ec_Dk hD rfl
  refine lv_icmp_eq (tgt := 630) hx hb d_W_210 rfl (fun h210 => ?_) (fun h210 => ?_)
  · replace hP : va_P (dC, dI) vwCl (wX a cI cZ cJ pn px py ln lf lt lr sn sf st sr th ur193.1 ur193.2.1 ur193.2.2 mn mc mk mo mr ++ wR b cI cZ cJ pn px py ln lf lt ur207.1 ur207.2.1 ur207.2.2 rc w1 w2 w3 rg mn kc kf kp) H := ec_flipP hP
    replace hD : va_D A (wX a cI cZ cJ pn px py ln lf lt lr sn sf st sr th ur193.1 ur193.2.1 ur193.2.2 mn mc mk mo mr ++ wR b cI cZ cJ pn px py ln lf lt ur207.1 ur207.2.1 ur207.2.2 rc w1 w2 w3 rg mn kc kf kp) := ec_flipD hD
    obtain ⟨e1, e2⟩ := Prod.mk.inj (hr193.trans hr207.symm)
    subst e2
    exact kk H locs ⟨pn, px, py, ln, lf, lt, lr, sn, sf, st, sr, th, ur193.1, ur193.2.1, ur193.2.2, mn, mc, mk, mo, mr, rc, w1, w2, w3, rg, mn, kc, kf, kp, gS, ec_holF_le g3 hr193, gM, gL, rfl, hP, hD, hS⟩
  · exact absurd ((Prod.mk.inj (hr193.trans hr207.symm)).1) h210
set_option maxRecDepth 100000 in
set_option maxHeartbeats 4000000 in
theorem law_3 {p : Program} {e : Env} {s : State} {m : MethodId} {below : List Frame} {meth : Method} {c : Code} (l : Launch) {b0 L : Nat} {xs : Nat → Int32} (hL : L ≤ 2560) (C0 : lw_At p s m meth c b0 L xs) {A : Nat → Prop} (hbA : ¬ A b0) {dC : Nat → ClassId} {dI : Nat → Nat → Nat} {a b : Nat → Nat} {cI cZ cJ : ClassId} (hK : va_K (dC, dI) vwCl (ec_tys cI cZ cJ) s) {H : Heap} {locs : List Loc} (hLS : ec_LS dC dI a b cI cZ cJ A s.heap H locs) {ls : Array Slot} {i : Nat} (hl : lv_has ls 4 [(3, .int (nI i)), (0, .ref b0), (1, .ref (a 0)), (2, .ref (b 0))]) (hi : i + 5 ≤ L) (kk : ∀ (H : Heap) (locs : List Loc), ec_LS dC dI a b cI cZ cJ A s.heap H locs → W p l e room_1 s m #[Value.ref b0] below meth c H locs 36 851 (lw_Z below #[Value.ref b0] s) (F0 m 630 ls [])) : W p l e room_1 s m #[Value.ref b0] below meth c H locs 36 851 (lw_Z below #[Value.ref b0] s) (F0 m 215 ls []) := by
  obtain ⟨hx, hb, hr, hml, hown0, hts, hX, hbl, hlocks, hgv⟩ := C0
  have hown : s.vm.findClass "ExactMeshLaw" = some m.cls := hown0
  have htb : ∀ w ∈ ec_tbl, w.before #[Value.ref b0] s = true := fun w h => hts w (List.mem_filter.mp h).1
  obtain ⟨pn, px, py, ln, lf, lt, lr, sn, sf, st, sr, th, hn, qx, qy, mn, mc, mk, mo, mr, rc, w1, w2, w3, rg, rk, kc, kf, kp, gS, g3, gM, gL, hrk, hP, hD, hS⟩ := hLS
  subst hrk
  have g12 := gS.1
  have gN := gS.2.1
  have gln := gS.2.2.2.1
  have gmn := gM.1
  have grk := gM.1
  have gkc := ec_gkc gM gL
  have guq := ec_guq g12 gM gL
  refine lv_aload_n hx hb d_W_215 rfl (lv_at hl 2 rfl) ?_
  refine lv_aload_n hx hb d_W_216 rfl (lv_at hl 1 rfl) ?_
  refine lv_iload_n hx hb d_W_217 rfl (lv_at hl 0 rfl) ?_
  refine lv_iconst (v := nI 1) hx hb d_W_218 (by decide) ?_
  refine ec_iadd hx hb d_W_219 ?_
  refine ec_sld (i := i + 1) hx hb hX hbl hbA hS (by omega) (by omega) d_W_220 ?_
  refine lv_aload_n hx hb d_W_221 rfl (lv_at hl 1 rfl) ?_
  refine lv_iload_n hx hb d_W_222 rfl (lv_at hl 0 rfl) ?_
  refine lv_iconst (v := nI 2) hx hb d_W_223 (by decide) ?_
  refine ec_iadd hx hb d_W_224 ?_
  refine ec_sld (i := i + 2) hx hb hX hbl hbA hS (by omega) (by omega) d_W_225 ?_
  refine lv_aload_n hx hb d_W_226 rfl (lv_at hl 1 rfl) ?_
  refine lv_iload_n hx hb d_W_227 rfl (lv_at hl 0 rfl) ?_
  refine lv_iconst (v := nI 3) hx hb d_W_228 (by decide) ?_
  refine ec_iadd hx hb d_W_229 ?_
  refine ec_sld (i := i + 3) hx hb hX hbl hbA hS (by omega) (by omega) d_W_230 ?_
  refine ec_vSi (C := "ExactMesh") (ci := 4) (q := (R_X, T_X, 5)) (q0 := 0) (As := [.int (xs (i + 1)), .int (xs (i + 2)), .int (xs (i + 3))]) (rest := []) ⟨hx, hb, hml, hown, htb⟩ (c_X_turn l dC dI a cI cZ cJ pn px py ln lf lt lr sn sf st sr th hn qx qy mn mc mk mo mr (wR b cI cZ cJ pn px py ln lf lt hn qx qy rc w1 w2 w3 rg mn kc kf kp) (xs (i + 1)) (xs (i + 2)) (xs (i + 3)) gS) kv_X_turn hK hP rfl rfl rfl wd_214 ⟨Nat.le_of_ble_eq_true rfl, Nat.le_of_ble_eq_true rfl⟩ ⟨rfl, rfl⟩ rfl hl.1 rfl (Nat.le_of_ble_eq_true rfl) d_W_231 ⟨Nat.le_of_ble_eq_true rfl, Nat.le_of_ble_eq_true rfl⟩ (fun r231 hr231 => ?_)
  replace hr231 : r231 = ec_turF pn px py (xs (i + 1)) (xs (i + 2)) (xs (i + 3)) := hr231
  subst hr231
  refine lv_aload_n hx hb d_W_234 rfl (lv_at hl 3 rfl) ?_
  refine lv_aload_n hx hb d_W_235 rfl (lv_at hl 1 rfl) ?_
  refine lv_iload_n hx hb d_W_236 rfl (lv_at hl 0 rfl) ?_
  refine lv_iconst (v := nI 1) hx hb d_W_237 (by decide) ?_
  refine ec_iadd hx hb d_W_238 ?_
  refine ec_sld (i := i + 1) hx hb hX hbl hbA hS (by omega) (by omega) d_W_239 ?_
  refine lv_aload_n hx hb d_W_240 rfl (lv_at hl 1 rfl) ?_
  refine lv_iload_n hx hb d_W_241 rfl (lv_at hl 0 rfl) ?_
  refine lv_iconst (v := nI 2) hx hb d_W_242 (by decide) ?_
  refine ec_iadd hx hb d_W_243 ?_
  refine ec_sld (i := i + 2) hx hb hX hbl hbA hS (by omega) (by omega) d_W_244 ?_
  refine lv_aload_n hx hb d_W_245 rfl (lv_at hl 1 rfl) ?_
  refine lv_iload_n hx hb d_W_246 rfl (lv_at hl 0 rfl) ?_
  refine lv_iconst (v := nI 3) hx hb d_W_247 (by decide) ?_
  refine ec_iadd hx hb d_W_248 ?_
  refine ec_sld (i := i + 3) hx hb hX hbl hbA hS (by omega) (by omega) d_W_249 ?_
  replace hP : va_P (dC, dI) vwCl (wR b cI cZ cJ pn px py ln lf lt hn qx qy rc w1 w2 w3 rg mn kc kf kp ++ wX a cI cZ cJ pn px py ln lf lt lr sn sf st sr th hn qx qy mn mc mk mo mr) H := ec_flipP hP
  replace hD : va_D A (wR b cI cZ cJ pn px py ln lf lt hn qx qy rc w1 w2 w3 rg mn kc kf kp ++ wX a cI cZ cJ pn px py ln lf lt lr sn sf st sr th hn qx qy mn mc mk mo mr) := ec_flipD hD
  refine ec_vSi (C := "ExactMeshModel") (ci := 5) (q := (R_R, T_R, 18)) (q0 := 0) (As := [.int (xs (i + 1)), .int (xs (i + 2)), .int (xs (i + 3))]) (rest := [.int (ec_turF pn px py (xs (i + 1)) (xs (i + 2)) (xs (i + 3)))]) ⟨hx, hb, hml, hown, htb⟩ (c_R_turn l dC dI b cI cZ cJ pn px py ln lf lt hn qx qy rc w1 w2 w3 rg mn kc kf kp (wX a cI cZ cJ pn px py ln lf lt lr sn sf st sr th hn qx qy mn mc mk mo mr) (xs (i + 1)) (xs (i + 2)) (xs (i + 3)) g12 gN) kv_R_turn hK hP rfl rfl rfl wd_552 ⟨Nat.le_of_ble_eq_true rfl, Nat.le_of_ble_eq_true rfl⟩ ⟨rfl, rfl⟩ rfl hl.1 rfl (Nat.le_of_ble_eq_true rfl) d_W_250 ⟨Nat.le_of_ble_eq_true rfl, Nat.le_of_ble_eq_true rfl⟩ (fun r250 hr250 => ?_)
  replace hr250 : r250 = ec_turF pn px py (xs (i + 1)) (xs (i + 2)) (xs (i + 3)) := hr250
  subst hr250
  refine lv_icmp_eq (tgt := 630) hx hb d_W_253 rfl (fun h253 => ?_) (fun h253 => ?_)
  · replace hP : va_P (dC, dI) vwCl (wX a cI cZ cJ pn px py ln lf lt lr sn sf st sr th hn qx qy mn mc mk mo mr ++ wR b cI cZ cJ pn px py ln lf lt hn qx qy rc w1 w2 w3 rg mn kc kf kp) H := ec_flipP hP
    replace hD : va_D A (wX a cI cZ cJ pn px py ln lf lt lr sn sf st sr th hn qx qy mn mc mk mo mr ++ wR b cI cZ cJ pn px py ln lf lt hn qx qy rc w1 w2 w3 rg mn kc kf kp) := ec_flipD hD
    exact kk H locs ⟨pn, px, py, ln, lf, lt, lr, sn, sf, st, sr, th, hn, qx, qy, mn, mc, mk, mo, mr, rc, w1, w2, w3, rg, mn, kc, kf, kp, gS, g3, gM, gL, rfl, hP, hD, hS⟩
  · exact absurd (rfl) h253
set_option maxRecDepth 100000 in
set_option maxHeartbeats 4000000 in
theorem law_4 {p : Program} {e : Env} {s : State} {m : MethodId} {below : List Frame} {meth : Method} {c : Code} (l : Launch) {b0 L : Nat} {xs : Nat → Int32} (hL : L ≤ 2560) (C0 : lw_At p s m meth c b0 L xs) {A : Nat → Prop} (hbA : ¬ A b0) {dC : Nat → ClassId} {dI : Nat → Nat → Nat} {a b : Nat → Nat} {cI cZ cJ : ClassId} (hK : va_K (dC, dI) vwCl (ec_tys cI cZ cJ) s) {H : Heap} {locs : List Loc} (hLS : ec_LS dC dI a b cI cZ cJ A s.heap H locs) {ls : Array Slot} {i : Nat} (hl : lv_has ls 4 [(3, .int (nI i)), (0, .ref b0), (1, .ref (a 0)), (2, .ref (b 0))]) (hi : i + 5 ≤ L) (kk : ∀ (H : Heap) (locs : List Loc), ec_LS dC dI a b cI cZ cJ A s.heap H locs → W p l e room_1 s m #[Value.ref b0] below meth c H locs 36 851 (lw_Z below #[Value.ref b0] s) (F0 m 630 ls [])) : W p l e room_1 s m #[Value.ref b0] below meth c H locs 36 851 (lw_Z below #[Value.ref b0] s) (F0 m 258 ls []) := by
  obtain ⟨hx, hb, hr, hml, hown0, hts, hX, hbl, hlocks, hgv⟩ := C0
  have hown : s.vm.findClass "ExactMeshLaw" = some m.cls := hown0
  have htb : ∀ w ∈ ec_tbl, w.before #[Value.ref b0] s = true := fun w h => hts w (List.mem_filter.mp h).1
  obtain ⟨pn, px, py, ln, lf, lt, lr, sn, sf, st, sr, th, hn, qx, qy, mn, mc, mk, mo, mr, rc, w1, w2, w3, rg, rk, kc, kf, kp, gS, g3, gM, gL, hrk, hP, hD, hS⟩ := hLS
  subst hrk
  have g12 := gS.1
  have gN := gS.2.1
  have gln := gS.2.2.2.1
  have gmn := gM.1
  have grk := gM.1
  have gkc := ec_gkc gM gL
  have guq := ec_guq g12 gM gL
  refine lv_aload_n hx hb d_W_258 rfl (lv_at hl 2 rfl) ?_
  refine lv_aload_n hx hb d_W_259 rfl (lv_at hl 1 rfl) ?_
  refine lv_iload_n hx hb d_W_260 rfl (lv_at hl 0 rfl) ?_
  refine lv_iconst (v := nI 1) hx hb d_W_261 (by decide) ?_
  refine ec_iadd hx hb d_W_262 ?_
  refine ec_sld (i := i + 1) hx hb hX hbl hbA hS (by omega) (by omega) d_W_263 ?_
  refine lv_aload_n hx hb d_W_264 rfl (lv_at hl 1 rfl) ?_
  refine lv_iload_n hx hb d_W_265 rfl (lv_at hl 0 rfl) ?_
  refine lv_iconst (v := nI 2) hx hb d_W_266 (by decide) ?_
  refine ec_iadd hx hb d_W_267 ?_
  refine ec_sld (i := i + 2) hx hb hX hbl hbA hS (by omega) (by omega) d_W_268 ?_
  refine lv_aload_n hx hb d_W_269 rfl (lv_at hl 1 rfl) ?_
  refine lv_iload_n hx hb d_W_270 rfl (lv_at hl 0 rfl) ?_
  refine lv_iconst (v := nI 3) hx hb d_W_271 (by decide) ?_
  refine ec_iadd hx hb d_W_272 ?_
  refine ec_sld (i := i + 3) hx hb hX hbl hbA hS (by omega) (by omega) d_W_273 ?_
  refine lv_aload_n hx hb d_W_274 rfl (lv_at hl 1 rfl) ?_
  refine lv_iload_n hx hb d_W_275 rfl (lv_at hl 0 rfl) ?_
  refine lv_iconst (v := nI 4) hx hb d_W_276 (by decide) ?_
  refine ec_iadd hx hb d_W_277 ?_
  refine ec_sld (i := i + 4) hx hb hX hbl hbA hS (by omega) (by omega) d_W_278 ?_
  refine ec_vSi (C := "ExactMesh") (ci := 4) (q := (R_X, T_X, 5)) (q0 := 0) (As := [.int (xs (i + 1)), .int (xs (i + 2)), .int (xs (i + 3)), .int (xs (i + 4))]) (rest := []) ⟨hx, hb, hml, hown, htb⟩ (c_X_inCircle l dC dI a cI cZ cJ pn px py ln lf lt lr sn sf st sr th hn qx qy mn mc mk mo mr (wR b cI cZ cJ pn px py ln lf lt hn qx qy rc w1 w2 w3 rg mn kc kf kp) (xs (i + 1)) (xs (i + 2)) (xs (i + 3)) (xs (i + 4)) gS) kv_X_inCircle hK hP rfl rfl rfl wd_219 ⟨Nat.le_of_ble_eq_true rfl, Nat.le_of_ble_eq_true rfl⟩ ⟨rfl, rfl⟩ rfl hl.1 rfl (Nat.le_of_ble_eq_true rfl) d_W_279 ⟨Nat.le_of_ble_eq_true rfl, Nat.le_of_ble_eq_true rfl⟩ (fun r279 hr279 => ?_)
  replace hr279 : r279 = ec_cirF pn px py (xs (i + 1)) (xs (i + 2)) (xs (i + 3)) (xs (i + 4)) := hr279
  subst hr279
  refine lv_aload_n hx hb d_W_282 rfl (lv_at hl 3 rfl) ?_
  refine lv_aload_n hx hb d_W_283 rfl (lv_at hl 1 rfl) ?_
  refine lv_iload_n hx hb d_W_284 rfl (lv_at hl 0 rfl) ?_
  refine lv_iconst (v := nI 1) hx hb d_W_285 (by decide) ?_
  refine ec_iadd hx hb d_W_286 ?_
  refine ec_sld (i := i + 1) hx hb hX hbl hbA hS (by omega) (by omega) d_W_287 ?_
  refine lv_aload_n hx hb d_W_288 rfl (lv_at hl 1 rfl) ?_
  refine lv_iload_n hx hb d_W_289 rfl (lv_at hl 0 rfl) ?_
  refine lv_iconst (v := nI 2) hx hb d_W_290 (by decide) ?_
  refine ec_iadd hx hb d_W_291 ?_
  refine ec_sld (i := i + 2) hx hb hX hbl hbA hS (by omega) (by omega) d_W_292 ?_
  refine lv_aload_n hx hb d_W_293 rfl (lv_at hl 1 rfl) ?_
  refine lv_iload_n hx hb d_W_294 rfl (lv_at hl 0 rfl) ?_
  refine lv_iconst (v := nI 3) hx hb d_W_295 (by decide) ?_
  refine ec_iadd hx hb d_W_296 ?_
  refine ec_sld (i := i + 3) hx hb hX hbl hbA hS (by omega) (by omega) d_W_297 ?_
  refine lv_aload_n hx hb d_W_298 rfl (lv_at hl 1 rfl) ?_
  refine lv_iload_n hx hb d_W_299 rfl (lv_at hl 0 rfl) ?_
  refine lv_iconst (v := nI 4) hx hb d_W_300 (by decide) ?_
  refine ec_iadd hx hb d_W_301 ?_
  refine ec_sld (i := i + 4) hx hb hX hbl hbA hS (by omega) (by omega) d_W_302 ?_
  replace hP : va_P (dC, dI) vwCl (wR b cI cZ cJ pn px py ln lf lt hn qx qy rc w1 w2 w3 rg mn kc kf kp ++ wX a cI cZ cJ pn px py ln lf lt lr sn sf st sr th hn qx qy mn mc mk mo mr) H := ec_flipP hP
  replace hD : va_D A (wR b cI cZ cJ pn px py ln lf lt hn qx qy rc w1 w2 w3 rg mn kc kf kp ++ wX a cI cZ cJ pn px py ln lf lt lr sn sf st sr th hn qx qy mn mc mk mo mr) := ec_flipD hD
  refine ec_vQi (C := "ExactMeshModel") (ci := 5) (q := (R_R, T_R, 18)) (q0 := 0) (As := [.int (xs (i + 1)), .int (xs (i + 2)), .int (xs (i + 3)), .int (xs (i + 4))]) (rest := [.int (ec_cirF pn px py (xs (i + 1)) (xs (i + 2)) (xs (i + 3)) (xs (i + 4)))]) ⟨hx, hb, hml, hown, htb⟩ (c_R_inCircle l dC dI b cI cZ cJ pn px py ln lf lt hn qx qy rc w1 w2 w3 rg mn kc kf kp (wX a cI cZ cJ pn px py ln lf lt lr sn sf st sr th hn qx qy mn mc mk mo mr) (xs (i + 1)) (xs (i + 2)) (xs (i + 3)) (xs (i + 4)) g12 gN A hD) kv_R_inCircle hK hP rfl rfl rfl hS wd_556 ⟨Nat.le_of_ble_eq_true rfl, Nat.le_of_ble_eq_true rfl⟩ ⟨rfl, rfl⟩ rfl hl.1 rfl (Nat.le_of_ble_eq_true rfl) d_W_303 ⟨Nat.le_of_ble_eq_true rfl, Nat.le_of_ble_eq_true rfl⟩ (fun r303 ur303 H locs hr303 hP hS => ?_)
  replace hr303 : r303 = ec_cirF pn px py (xs (i + 1)) (xs (i + 2)) (xs (i + 3)) (xs (i + 4)) := hr303
  replace hP : va_P (dC, dI) vwCl (wR b cI cZ cJ pn px py ln lf lt hn qx qy rc w1 w2 w3 rg mn kc kf ur303 ++ wX a cI cZ cJ pn px py ln lf lt lr sn sf st sr th hn qx qy mn mc mk mo mr) H := hP
  replace hD : va_D A (wR b cI cZ cJ pn px py ln lf lt hn qx qy rc w1 w2 w3 rg mn kc kf ur303 ++ wX a cI cZ cJ pn px py ln lf lt lr sn sf st sr th hn qx qy mn mc mk mo mr) := ec_Dk hD rfl
  refine lv_icmp_eq (tgt := 630) hx hb d_W_306 rfl (fun h306 => ?_) (fun h306 => ?_)
  · replace hP : va_P (dC, dI) vwCl (wX a cI cZ cJ pn px py ln lf lt lr sn sf st sr th hn qx qy mn mc mk mo mr ++ wR b cI cZ cJ pn px py ln lf lt hn qx qy rc w1 w2 w3 rg mn kc kf ur303) H := ec_flipP hP
    replace hD : va_D A (wX a cI cZ cJ pn px py ln lf lt lr sn sf st sr th hn qx qy mn mc mk mo mr ++ wR b cI cZ cJ pn px py ln lf lt hn qx qy rc w1 w2 w3 rg mn kc kf ur303) := ec_flipD hD
    exact kk H locs ⟨pn, px, py, ln, lf, lt, lr, sn, sf, st, sr, th, hn, qx, qy, mn, mc, mk, mo, mr, rc, w1, w2, w3, rg, mn, kc, kf, ur303, gS, g3, gM, gL, rfl, hP, hD, hS⟩
  · exact absurd (hr303.symm) h306
