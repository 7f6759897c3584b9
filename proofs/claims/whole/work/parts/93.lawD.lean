theorem ec_LS.S {dC : Nat → ClassId} {dI : Nat → Nat → Nat} {a b : Nat → Nat} {cI cZ cJ : ClassId} {A : Nat → Prop} {H0 H : Heap} {locs : List Loc} (h : ec_LS dC dI a b cI cZ cJ A H0 H locs) : va_S A H0 H locs := by
  obtain ⟨pn, px, py, ln, lf, lt, lr, sn, sf, st, sr, th, hn, qx, qy, mn, mc, mk, mo, mr, rc, w1, w2, w3, rg, rk, kc, kf, kp, _, _, _, _, _, _, _, hS⟩ := h
  exact hS
set_option maxRecDepth 100000 in
set_option maxHeartbeats 4000000 in
theorem law_switch {p : Program} {e : Env} {s : State} {m : MethodId} {below : List Frame} {meth : Method} {c : Code} (l : Launch) {b0 L : Nat} {xs : Nat → Int32} (hL : L ≤ 2560) (C0 : lw_At p s m meth c b0 L xs) {A : Nat → Prop} (hbA : ¬ A b0) {dC : Nat → ClassId} {dI : Nat → Nat → Nat} {a b : Nat → Nat} {cI cZ cJ : ClassId} (hK : va_K (dC, dI) vwCl (ec_tys cI cZ cJ) s) {H : Heap} {locs : List Loc} (hLS : ec_LS dC dI a b cI cZ cJ A s.heap H locs) {ls : Array Slot} {i : Nat} (hl : lv_has ls 4 [(3, .int (nI i)), (0, .ref b0), (1, .ref (a 0)), (2, .ref (b 0))]) (hi : i + 5 ≤ L) (x : Int32) (kk : ∀ (H : Heap) (locs : List Loc), ec_LS dC dI a b cI cZ cJ A s.heap H locs → W p l e room_1 s m #[Value.ref b0] below meth c H locs 36 851 (lw_Z below #[Value.ref b0] s) (F0 m 630 ls [])) : W p l e room_1 s m #[Value.ref b0] below meth c H locs 36 851 (lw_Z below #[Value.ref b0] s) (F0 m 32 ls [.int x]) := by
  have hx := C0.1
  have hb := C0.2.1
  by_cases h0 : x = nI 0
  · refine lv_tableIn (off := 84) (tgt := 116) hx hb d_W_32 (ec_sw_in (k := 0) (by decide) h0).1 (ec_sw_in (k := 0) (by decide) h0).2.1 (by rw [(ec_sw_in (k := 0) (by decide) h0).2.2]; rfl) rfl ?_
    exact law_0 l hL C0 hbA hK hLS hl hi kk
  by_cases h1 : x = nI 1
  · refine lv_tableIn (off := 117) (tgt := 149) hx hb d_W_32 (ec_sw_in (k := 1) (by decide) h1).1 (ec_sw_in (k := 1) (by decide) h1).2.1 (by rw [(ec_sw_in (k := 1) (by decide) h1).2.2]; rfl) rfl ?_
    exact law_1 l hL C0 hbA hK hLS hl hi kk
  by_cases h2 : x = nI 2
  · refine lv_tableIn (off := 150) (tgt := 182) hx hb d_W_32 (ec_sw_in (k := 2) (by decide) h2).1 (ec_sw_in (k := 2) (by decide) h2).2.1 (by rw [(ec_sw_in (k := 2) (by decide) h2).2.2]; rfl) rfl ?_
    exact law_2 l hL C0 hbA hK hLS hl hi kk
  by_cases h3 : x = nI 3
  · refine lv_tableIn (off := 183) (tgt := 215) hx hb d_W_32 (ec_sw_in (k := 3) (by decide) h3).1 (ec_sw_in (k := 3) (by decide) h3).2.1 (by rw [(ec_sw_in (k := 3) (by decide) h3).2.2]; rfl) rfl ?_
    exact law_3 l hL C0 hbA hK hLS hl hi kk
  by_cases h4 : x = nI 4
  · refine lv_tableIn (off := 226) (tgt := 258) hx hb d_W_32 (ec_sw_in (k := 4) (by decide) h4).1 (ec_sw_in (k := 4) (by decide) h4).2.1 (by rw [(ec_sw_in (k := 4) (by decide) h4).2.2]; rfl) rfl ?_
    exact law_4 l hL C0 hbA hK hLS hl hi kk
  by_cases h5 : x = nI 5
  · refine lv_tableIn (off := 279) (tgt := 311) hx hb d_W_32 (ec_sw_in (k := 5) (by decide) h5).1 (ec_sw_in (k := 5) (by decide) h5).2.1 (by rw [(ec_sw_in (k := 5) (by decide) h5).2.2]; rfl) rfl ?_
    exact law_5 l hL C0 hbA hK hLS hl hi kk
  by_cases h6 : x = nI 6
  · refine lv_tableIn (off := 344) (tgt := 376) hx hb d_W_32 (ec_sw_in (k := 6) (by decide) h6).1 (ec_sw_in (k := 6) (by decide) h6).2.1 (by rw [(ec_sw_in (k := 6) (by decide) h6).2.2]; rfl) rfl ?_
    exact law_6 l hL C0 hbA hK hLS hl hi kk
  by_cases h7 : x = nI 7
  · refine lv_tableIn (off := 357) (tgt := 389) hx hb d_W_32 (ec_sw_in (k := 7) (by decide) h7).1 (ec_sw_in (k := 7) (by decide) h7).2.1 (by rw [(ec_sw_in (k := 7) (by decide) h7).2.2]; rfl) rfl ?_
    exact law_7 l hL C0 hbA hK hLS hl hi kk
  by_cases h8 : x = nI 8
  · refine lv_tableIn (off := 390) (tgt := 422) hx hb d_W_32 (ec_sw_in (k := 8) (by decide) h8).1 (ec_sw_in (k := 8) (by decide) h8).2.1 (by rw [(ec_sw_in (k := 8) (by decide) h8).2.2]; rfl) rfl ?_
    exact law_8 l hL C0 hbA hK hLS hl hi kk
  by_cases h9 : x = nI 9
  · refine lv_tableIn (off := 423) (tgt := 455) hx hb d_W_32 (ec_sw_in (k := 9) (by decide) h9).1 (ec_sw_in (k := 9) (by decide) h9).2.1 (by rw [(ec_sw_in (k := 9) (by decide) h9).2.2]; rfl) rfl ?_
    exact law_9 l hL C0 hbA hK hLS hl hi kk
  by_cases h10 : x = nI 10
  · refine lv_tableIn (off := 456) (tgt := 488) hx hb d_W_32 (ec_sw_in (k := 10) (by decide) h10).1 (ec_sw_in (k := 10) (by decide) h10).2.1 (by rw [(ec_sw_in (k := 10) (by decide) h10).2.2]; rfl) rfl ?_
    exact law_10 l hL C0 hbA hK hLS hl hi kk
  by_cases h11 : x = nI 11
  · refine lv_tableIn (off := 489) (tgt := 521) hx hb d_W_32 (ec_sw_in (k := 11) (by decide) h11).1 (ec_sw_in (k := 11) (by decide) h11).2.1 (by rw [(ec_sw_in (k := 11) (by decide) h11).2.2]; rfl) rfl ?_
    exact law_11 l hL C0 hbA hK hLS hl hi kk
  by_cases h12 : x = nI 12
  · refine lv_tableIn (off := 512) (tgt := 544) hx hb d_W_32 (ec_sw_in (k := 12) (by decide) h12).1 (ec_sw_in (k := 12) (by decide) h12).2.1 (by rw [(ec_sw_in (k := 12) (by decide) h12).2.2]; rfl) rfl ?_
    exact law_12 l hL C0 hbA hK hLS hl hi kk
  by_cases h13 : x = nI 13
  · refine lv_tableIn (off := 526) (tgt := 558) hx hb d_W_32 (ec_sw_in (k := 13) (by decide) h13).1 (ec_sw_in (k := 13) (by decide) h13).2.1 (by rw [(ec_sw_in (k := 13) (by decide) h13).2.2]; rfl) rfl ?_
    exact law_13 l hL C0 hbA hK hLS hl hi kk
  by_cases h14 : x = nI 14
  · refine lv_tableIn (off := 539) (tgt := 571) hx hb d_W_32 (ec_sw_in (k := 14) (by decide) h14).1 (ec_sw_in (k := 14) (by decide) h14).2.1 (by rw [(ec_sw_in (k := 14) (by decide) h14).2.2]; rfl) rfl ?_
    exact law_14 l hL C0 hbA hK hLS hl hi kk
  by_cases h15 : x = nI 15
  · refine lv_tableIn (off := 552) (tgt := 584) hx hb d_W_32 (ec_sw_in (k := 15) (by decide) h15).1 (ec_sw_in (k := 15) (by decide) h15).2.1 (by rw [(ec_sw_in (k := 15) (by decide) h15).2.2]; rfl) rfl ?_
    exact law_15 l hL C0 hbA hK hLS hl hi kk
  by_cases h16 : x = nI 16
  · refine lv_tableIn (off := 565) (tgt := 597) hx hb d_W_32 (ec_sw_in (k := 16) (by decide) h16).1 (ec_sw_in (k := 16) (by decide) h16).2.1 (by rw [(ec_sw_in (k := 16) (by decide) h16).2.2]; rfl) rfl ?_
    exact law_16 l hL C0 hbA hK hLS hl hi kk
  refine lv_tableOut (tgt := 630) hx hb d_W_32 (ec_sw_out (fun k hk q => ?_)) rfl (kk H locs hLS)
  have hk2 : k = 0 ∨ k = 1 ∨ k = 2 ∨ k = 3 ∨ k = 4 ∨ k = 5 ∨ k = 6 ∨ k = 7 ∨ k = 8 ∨ k = 9 ∨ k = 10 ∨ k = 11 ∨ k = 12 ∨ k = 13 ∨ k = 14 ∨ k = 15 ∨ k = 16 := by omega
  rcases hk2 with rfl | rfl | rfl | rfl | rfl | rfl | rfl | rfl | rfl | rfl | rfl | rfl | rfl | rfl | rfl | rfl | rfl
  · exact h0 q
  · exact h1 q
  · exact h2 q
  · exact h3 q
  · exact h4 q
  · exact h5 q
  · exact h6 q
  · exact h7 q
  · exact h8 q
  · exact h9 q
  · exact h10 q
  · exact h11 q
  · exact h12 q
  · exact h13 q
  · exact h14 q
  · exact h15 q
  · exact h16 q
set_option maxRecDepth 100000 in
set_option maxHeartbeats 4000000 in
theorem law_loop {p : Program} {e : Env} {s : State} {m : MethodId} {below : List Frame} {meth : Method} {c : Code} (l : Launch) {b0 L : Nat} {xs : Nat → Int32} (hL : L ≤ 2560) (C0 : lw_At p s m meth c b0 L xs) {A : Nat → Prop} (hbA : ¬ A b0) {dC : Nat → ClassId} {dI : Nat → Nat → Nat} {a b : Nat → Nat} {cI cZ cJ : ClassId} (hK : va_K (dC, dI) vwCl (ec_tys cI cZ cJ) s) (hA : ∀ q, A q → s.heap.size ≤ q) (n : Nat) : ∀ (i : Nat) (H : Heap) (locs : List Loc) (ls : Array Slot), L - i ≤ n → i ≤ L → ec_LS dC dI a b cI cZ cJ A s.heap H locs → lv_has ls 4 [(3, .int (nI i)), (0, .ref b0), (1, .ref (a 0)), (2, .ref (b 0))] → W p l e room_1 s m #[Value.ref b0] below meth c H locs 36 851 (lw_Z below #[Value.ref b0] s) (F0 m 18 ls []) := by
  induction n with
  | zero =>
    intro i H locs ls hn hi hLS hl
    obtain ⟨hx, hb, hr, hml, hown0, hts, hX, hbl, hlocks, hgv⟩ := C0
    have hS := hLS.S
    refine lv_iload_n hx hb d_W_18 rfl (lv_at hl 0 rfl) ?_
    refine lv_aload_n hx hb d_W_19 rfl (lv_at hl 1 rfl) ?_
    refine va_slen hx hb hX hbl hbA hS d_W_20 ?_
    refine lv_iconst (v := nI 5) hx hb d_W_21 (by decide) ?_
    refine lv_isub hx hb d_W_22 ?_
    refine lv_icmp_gt (tgt := 636) hx hb d_W_23 rfl (fun h => ?_) (fun h => ?_)
    · refine lv_iconst (v := 1) hx hb d_W_636 (by decide) ?_
      refine va_forget (fun q hq => hA _ (hS.2.2 q hq)) ?_
      refine W.widen (k := 600000) (n := 7302249) (by decide) (by decide) ?_
      exact lw_ret hx hb hr hlocks d_W_637
    · have := ec_lt5 hL hi h
      omega
  | succ n ih =>
    intro i H locs ls hn hi hLS hl
    have C := C0
    obtain ⟨hx, hb, hr, hml, hown0, hts, hX, hbl, hlocks, hgv⟩ := C
    have hS := hLS.S
    refine lv_iload_n hx hb d_W_18 rfl (lv_at hl 0 rfl) ?_
    refine lv_aload_n hx hb d_W_19 rfl (lv_at hl 1 rfl) ?_
    refine va_slen hx hb hX hbl hbA hS d_W_20 ?_
    refine lv_iconst (v := nI 5) hx hb d_W_21 (by decide) ?_
    refine lv_isub hx hb d_W_22 ?_
    refine lv_icmp_gt (tgt := 636) hx hb d_W_23 rfl (fun h => ?_) (fun h => ?_)
    · refine lv_iconst (v := 1) hx hb d_W_636 (by decide) ?_
      refine va_forget (fun q hq => hA _ (hS.2.2 q hq)) ?_
      refine W.widen (k := 600000) (n := 7302249) (by decide) (by decide) ?_
      exact lw_ret hx hb hr hlocks d_W_637
    · have hi5 := ec_lt5 hL hi h
      refine lv_aload_n hx hb d_W_26 rfl (lv_at hl 1 rfl) ?_
      refine lv_iload_n hx hb d_W_27 rfl (lv_at hl 0 rfl) ?_
      refine ec_sld (i := i) hx hb hX hbl hbA hS (by omega) (by omega) d_W_28 ?_
      refine lv_bipush (v := nI 31) hx hb d_W_29 (by decide) ?_
      refine lv_iand hx hb d_W_31 ?_
      refine law_switch l hL C0 hbA hK hLS hl hi5 _ (fun H2 locs2 h2 => ?_)
      refine ec_iinc5 (k := 0) hx hb d_W_630 hl rfl (by decide) rfl (fun ls2 hl2 => ?_)
      refine lv_goto (tgt := 18) hx hb d_W_633 rfl ?_
      exact ih (i + 5) H2 locs2 ls2 (by omega) hi5 h2 hl2
theorem ec_SI_0 : ec_SI 0 ec_zI ec_zI 0 ec_zN ec_zN ec_zN :=
  ⟨by omega, fun i hi => by omega, fun i j hi => by omega, by omega, ge_Pre.mk (fun q => absurd q ec_E_none) (fun q => absurd q ec_E_none) (fun q => absurd q ec_E_none) (fun q => absurd q ec_E_none) (fun q => absurd q ec_E_none),
   fun i hi => by omega, ec_R_iff ec_R_nil (fun x y => ec_E_0 x y)⟩
theorem ec_MI_0 : ec_MI 0 0 ec_zN ec_zO ec_zN := ⟨by omega, fun i hi => by omega, fun h => by omega, fun a _ => by show 0 < 4096; omega⟩
theorem ec_LR_0 : ec_LR 0 ec_zN ec_zN ec_zN ec_zZ := ⟨fun i hi => by omega, fun t k ht => by omega⟩
