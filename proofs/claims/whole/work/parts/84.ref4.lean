set_option maxRecDepth 100000 in
set_option maxHeartbeats 4000000 in
theorem c_R_fill (l : Launch) (dC : Nat → ClassId) (dI : Nat → Nat → Nat) (a : Nat → Nat) (cI cZ cJ : ClassId) (rn : Nat) (rx : Nat → Int32) (ry : Nat → Int32) (rl : Nat) (rf : Nat → Nat) (rt : Nat → Nat) (rh : Nat) (gx : Nat → Int32) (gy : Nat → Int32) (rc : Nat) (w1 : Nat → Nat) (w2 : Nat → Nat) (w3 : Nat → Nat) (rg : Nat → Prop) (rk : Nat) (kc : Nat → Nat) (kf : Nat → Prop) (kp : Nat → Int64) (rest : va_W) (glr : Nat → Nat) (T0 : Nat → Nat → Nat → Prop) (gS : ec_SI rn rx ry rl rf rt glr) (gF : ec_Full rn rx ry rl rf rt T0) (A : Nat → Prop) (hD : va_D A (wR a cI cZ cJ rn rx ry rl rf rt rh gx gy rc w1 w2 w3 rg rk kc kf kp ++ rest)) : Met l y_R_fill (Cond.code y_R_fill b_R_fill 3 none :: ec_tbl) ({ frames := 7, cells := 0, slots := 0, locals := 178 }) (va_Pc [.ref (a 0)] (fun U => va_P (dC, dI) vwCl (wR a cI cZ cJ rn rx ry rl rf rt rh gx gy rc w1 w2 w3 rg rk kc kf kp ++ rest) U.heap ∧ va_K (dC, dI) vwCl (ec_tys cI cZ cJ) U)) (va_Qv (fun (u : ec_T6) => ec_RA T0 u.1 u.2.1 u.2.2.1 u.2.2.2.1 u.2.2.2.2.1) (fun u t => va_P (dC, dI) vwCl (wR a cI cZ cJ rn rx ry rl rf rt rh gx gy u.1 u.2.1 u.2.2.1 u.2.2.2.1 u.2.2.2.2.1 rk kc kf u.2.2.2.2.2 ++ rest) t.heap) A) 0 0 A := by
  refine Met.ofW (cc := b_R_fill) (maxL := 3) (ret := none) (by decide) rfl ?_
  intro p e s m args below meth c s₁ B hml hv0
  obtain ⟨rfl, hP, hK⟩ := hv0
  have hx := B.exec
  have hb := B.bytes
  have hr := B.returns
  have hts := atoms_spec (ws := (Cond.code y_R_fill b_R_fill 3 none :: ec_tbl)) B.pre
  have htb : ∀ w ∈ ec_tbl, w.before _ s = true := fun w h => hts w (List.mem_cons_of_mem _ h)
  clear hts
  have hown : s.vm.findClass "ExactMeshModel" = some m.cls := findClass_of_methodNamed B.named
  have hlocks := B.notSynchronized
  have hl := lv_entry ([.ref (a 0)]) (n := 3) (Nat.le_of_ble_eq_true rfl)
  rw [lg_entry_eq]
  generalize (lg_sl ([.ref (a 0)]) ++ List.replicate (3 - (lg_sl ([.ref (a 0)])).length) Slot.unset).toArray = ls at hl ⊢
  replace hl : lv_has ls 3 [(0, .ref (a 0))] := hl
  refine ec_start (fun H locs hH hlocs => ?_)
  replace hP : va_P (dC, dI) vwCl (wR a cI cZ cJ rn rx ry rl rf rt rh gx gy rc w1 w2 w3 rg rk kc kf kp ++ rest) H := by rw [hH]; exact hP
  have hS : va_S A s.heap H locs := by rw [hH, hlocs]; exact va_S.rf
  clear hH hlocs
  have g12 := gS.1
  have gN := gS.2.1
  have grl := gS.2.2.2.1
  have gll := gS.links
  refine lv_aload_n hx hb d_R_fill_0 rfl (lv_at hl 0 rfl) ?_
  refine lv_iconst (v := nI 0) hx hb d_R_fill_1 (by decide) ?_
  refine va_put (D := (dC, dI)) (ci := 5) (v := .int (nI 0)) (ty := .int) (C := R_R) (T := T_R) (N := 18) hx hb htb in_R t_R ty_R nm_R hown hK hP hD hS 0 rfl rfl 9 (by decide) (htb _ wd_458) (fun _ h9 => h9) rfl (by decide +kernel) rfl rfl (Nat.le_of_ble_eq_true rfl) d_R_fill_2 (fun H locs hP hD hS => ?_)
  replace hP : va_P (dC, dI) vwCl (wR a cI cZ cJ rn rx ry rl rf rt rh gx gy 0 w1 w2 w3 rg rk kc kf kp ++ rest) H := hP
  replace hD : va_D A (wR a cI cZ cJ rn rx ry rl rf rt rh gx gy 0 w1 w2 w3 rg rk kc kf kp ++ rest) := hD
  refine lv_iconst (v := nI 0) hx hb d_R_fill_5 (by decide) ?_
  refine lv_istore_n hx hb d_R_fill_6 rfl hl (by decide) rfl (fun ls hl => ?_)
  replace hl : lv_has ls 3 [(1, .int (nI 0)), (0, .ref (a 0))] := hl
  obtain ⟨i, e_i⟩ : ∃ z : Nat, z = 0 := ⟨_, rfl⟩
  obtain ⟨n1, e_n1⟩ : ∃ z : Nat, z = 0 := ⟨_, rfl⟩
  obtain ⟨a1, e_a1⟩ : ∃ z : Nat → Nat, z = w1 := ⟨_, rfl⟩
  obtain ⟨b1, e_b1⟩ : ∃ z : Nat → Nat, z = w2 := ⟨_, rfl⟩
  obtain ⟨c1, e_c1⟩ : ∃ z : Nat → Nat, z = w3 := ⟨_, rfl⟩
  obtain ⟨g1, e_g1⟩ : ∃ z : Nat → Prop, z = rg := ⟨_, rfl⟩
  obtain ⟨kq1, e_kq1⟩ : ∃ z : Nat → Int64, z = kp := ⟨_, rfl⟩
  replace hl : lv_has ls 3 [(0, .ref (a 0)), (1, .int (nI i))] := by (try simp only [e_i, e_n1, e_a1, e_b1, e_c1, e_g1, e_kq1]); exact lv_sub hl [1, 0] rfl
  replace hP : va_P (dC, dI) vwCl (wR a cI cZ cJ rn rx ry rl rf rt rh gx gy n1 a1 b1 c1 g1 rk kc kf kq1 ++ rest) H := by (try simp only [e_i, e_n1, e_a1, e_b1, e_c1, e_g1, e_kq1]); exact hP
  replace hD : va_D A (wR a cI cZ cJ rn rx ry rl rf rt rh gx gy n1 a1 b1 c1 g1 rk kc kf kq1 ++ rest) := ec_Dk hD rfl
  have hle : i ≤ rn := by omega
  have hJ : ec_F1 T0 rn (ec_P rx ry) n1 a1 b1 c1 g1 i 0 := by simp only [e_i, e_n1, e_a1, e_b1, e_c1, e_g1, e_kq1]; exact ec_F1_0
  clear e_kq1 e_g1 e_c1 e_b1 e_a1 e_n1 e_i
  generalize hk7 : rn - i = k7
  induction k7 using Nat.strongRecOn generalizing i n1 a1 b1 c1 g1 kq1 ls H locs with
  | ind k7 ih7 =>
  refine lv_iload_n hx hb d_R_fill_7 rfl (lv_at hl 1 rfl) ?_
  refine lv_aload_n hx hb d_R_fill_8 rfl (lv_at hl 0 rfl) ?_
  refine va_get (D := (dC, dI)) (ci := 5) (v := .int (nI rn)) (C := R_R) (T := T_R) (N := 18) hx hb htb in_R hown hK hP 0 rfl rfl 0 (by decide) (htb _ wd_449) (fun _ h9 => h9) rfl d_R_fill_9 ?_
  refine ec_icmp_ge (tgt := 66) hx hb d_R_fill_12 rfl (by omega) (by omega) (fun h12 => ?_) (fun h12 => ?_)
  · have hF0 := ec_F2_0 gS gF hJ (Or.inl h12)
    refine lv_iconst (v := nI 0) hx hb d_R_fill_66 (by decide) ?_
    refine lv_istore_n hx hb d_R_fill_67 rfl hl (by decide) rfl (fun ls hl => ?_)
    replace hl : lv_has ls 3 [(1, .int (nI 0)), (0, .ref (a 0))] := hl
    obtain ⟨t, e_t⟩ : ∃ z : Nat, z = 0 := ⟨_, rfl⟩
    obtain ⟨n3, e_n3⟩ : ∃ z : Nat, z = n1 := ⟨_, rfl⟩
    obtain ⟨a3, e_a3⟩ : ∃ z : Nat → Nat, z = a1 := ⟨_, rfl⟩
    obtain ⟨b3, e_b3⟩ : ∃ z : Nat → Nat, z = b1 := ⟨_, rfl⟩
    obtain ⟨c3, e_c3⟩ : ∃ z : Nat → Nat, z = c1 := ⟨_, rfl⟩
    obtain ⟨g3, e_g3⟩ : ∃ z : Nat → Prop, z = g1 := ⟨_, rfl⟩
    obtain ⟨kq3, e_kq3⟩ : ∃ z : Nat → Int64, z = kq1 := ⟨_, rfl⟩
    replace hl : lv_has ls 3 [(0, .ref (a 0)), (1, .int (nI t))] := by (try simp only [e_t, e_n3, e_a3, e_b3, e_c3, e_g3, e_kq3]); exact lv_sub hl [1, 0] rfl
    replace hP : va_P (dC, dI) vwCl (wR a cI cZ cJ rn rx ry rl rf rt rh gx gy n3 a3 b3 c3 g3 rk kc kf kq3 ++ rest) H := by (try simp only [e_t, e_n3, e_a3, e_b3, e_c3, e_g3, e_kq3]); exact hP
    replace hD : va_D A (wR a cI cZ cJ rn rx ry rl rf rt rh gx gy n3 a3 b3 c3 g3 rk kc kf kq3 ++ rest) := ec_Dk hD rfl
    have hle3 : t ≤ n3 ∧ n3 ≤ 19 := by simp only [e_t, e_n3, e_a3, e_b3, e_c3, e_g3, e_kq3]; exact ⟨Nat.zero_le _, hJ.1.2.2⟩
    have hJ3 : ec_F2 T0 n3 a3 b3 c3 g3 t := by simp only [e_t, e_n3, e_a3, e_b3, e_c3, e_g3, e_kq3]; exact hF0
    clear e_kq3 e_g3 e_c3 e_b3 e_a3 e_n3 e_t
    generalize hk68 : 20 - t = k68
    induction k68 using Nat.strongRecOn generalizing t n3 a3 b3 c3 g3 kq3 ls H locs with
    | ind k68 ih68 =>
    refine lv_iload_n hx hb d_R_fill_68 rfl (lv_at hl 1 rfl) ?_
    refine lv_aload_n hx hb d_R_fill_69 rfl (lv_at hl 0 rfl) ?_
    refine va_get (D := (dC, dI)) (ci := 5) (v := .int (nI n3)) (C := R_R) (T := T_R) (N := 18) hx hb htb in_R hown hK hP 0 rfl rfl 9 (by decide) (htb _ wd_458) (fun _ h9 => h9) rfl d_R_fill_70 ?_
    refine ec_icmp_ge (tgt := 130) hx hb d_R_fill_73 rfl (by omega) (by omega) (fun h73 => ?_) (fun h73 => ?_)
    · exact W.vret hx hb hr (fun tS ht hW => ⟨⟨(n3, a3, b3, c3, g3, kq3), rfl, (ec_RA_of gS gF hJ3 h73), by show va_P _ _ _ tS.heap; rw [ht]; exact hP⟩, hS.F ht⟩) hS.2.2 d_R_fill_130
    · have hT73 := h73
      have e0 := hJ3.1
      have hlt := ec_RD.lt gF e0
      have hne := ec_RD.ne gF e0
      refine lv_aload_n hx hb d_R_fill_76 rfl (lv_at hl 0 rfl) ?_
      refine lv_aload_n hx hb d_R_fill_77 rfl (lv_at hl 0 rfl) ?_
      refine va_get (D := (dC, dI)) (ci := 5) (v := .ref (a 8)) (C := R_R) (T := T_R) (N := 18) hx hb htb in_R hown hK hP 0 rfl rfl 11 (by decide) (htb _ wd_460) (fun _ h9 => h9) rfl d_R_fill_78 ?_
      refine lv_iload_n hx hb d_R_fill_81 rfl (lv_at hl 1 rfl) ?_
      refine ec_ialdN (f := b3) (i := t) hx hb hK hP 8 0 rfl rfl (by omega) (by decide) d_R_fill_82 ?_
      refine lv_aload_n hx hb d_R_fill_83 rfl (lv_at hl 0 rfl) ?_
      refine va_get (D := (dC, dI)) (ci := 5) (v := .ref (a 7)) (C := R_R) (T := T_R) (N := 18) hx hb htb in_R hown hK hP 0 rfl rfl 10 (by decide) (htb _ wd_459) (fun _ h9 => h9) rfl d_R_fill_84 ?_
      refine lv_iload_n hx hb d_R_fill_87 rfl (lv_at hl 1 rfl) ?_
      refine ec_ialdN (f := a3) (i := t) hx hb hK hP 7 0 rfl rfl (by omega) (by decide) d_R_fill_88 ?_
      refine ec_vQv (C := "ExactMeshModel") (ci := 5) (q := (R_R, T_R, 18)) (q0 := 0) (As := [.int (nI (b3 t)), .int (nI (a3 t))]) (rest := []) ⟨hx, hb, hml, hown, htb⟩ (c_R_grow l dC dI a cI cZ cJ rn rx ry rl rf rt rh gx gy n3 a3 b3 c3 g3 rk kc kf kq3 rest (b3 t) (a3 t) glr gS hlt (by have := e0.2.2; omega) (hlt t hT73).2.1 (hlt t hT73).1 (fun q => (hne t hT73).1 q.symm) A hD) kv_R_grow hK hP rfl rfl rfl hS wd_586 ⟨Nat.le_of_ble_eq_true rfl, Nat.le_of_ble_eq_true rfl⟩ ⟨rfl, rfl⟩ rfl hl.1 rfl (Nat.le_of_ble_eq_true rfl) d_R_fill_89 ⟨Nat.zero_le _, Nat.zero_le _⟩ (fun ur89 H locs hr89 hP hS => ?_)
      replace hr89 : ec_GR rn (ec_P rx ry) (ec_E rl rf rt) n3 a3 b3 c3 g3 (b3 t) (a3 t) ur89 := hr89
      replace hP : va_P (dC, dI) vwCl (wR a cI cZ cJ rn rx ry rl rf rt rh gx gy ur89.1 ur89.2.1 ur89.2.2.1 ur89.2.2.2.1 ur89.2.2.2.2.1 rk kc kf ur89.2.2.2.2.2 ++ rest) H := hP
      replace hD : va_D A (wR a cI cZ cJ rn rx ry rl rf rt rh gx gy ur89.1 ur89.2.1 ur89.2.2.1 ur89.2.2.2.1 ur89.2.2.2.2.1 rk kc kf ur89.2.2.2.2.2 ++ rest) := ec_Dk hD rfl
      have z1 := ec_grow_T gS gF e0 (Or.inr ⟨_, e0.1.1 t hT73⟩) hr89
      have e1 := z1.1
      have t1 : t < ur89.1 := by have := z1.2.1; omega
      have hlt1 := ec_RD.lt gF e1
      have hne1 := ec_RD.ne gF e1
      refine lv_aload_n hx hb d_R_fill_92 rfl (lv_at hl 0 rfl) ?_
      refine lv_aload_n hx hb d_R_fill_93 rfl (lv_at hl 0 rfl) ?_
      refine va_get (D := (dC, dI)) (ci := 5) (v := .ref (a 9)) (C := R_R) (T := T_R) (N := 18) hx hb htb in_R hown hK hP 0 rfl rfl 12 (by decide) (htb _ wd_461) (fun _ h9 => h9) rfl d_R_fill_94 ?_
      refine lv_iload_n hx hb d_R_fill_97 rfl (lv_at hl 1 rfl) ?_
      refine ec_ialdN (f := ur89.2.2.2.1) (i := t) hx hb hK hP 9 0 rfl rfl (by omega) (by decide) d_R_fill_98 ?_
      refine lv_aload_n hx hb d_R_fill_99 rfl (lv_at hl 0 rfl) ?_
      refine va_get (D := (dC, dI)) (ci := 5) (v := .ref (a 8)) (C := R_R) (T := T_R) (N := 18) hx hb htb in_R hown hK hP 0 rfl rfl 11 (by decide) (htb _ wd_460) (fun _ h9 => h9) rfl d_R_fill_100 ?_
      refine lv_iload_n hx hb d_R_fill_103 rfl (lv_at hl 1 rfl) ?_
      refine ec_ialdN (f := ur89.2.2.1) (i := t) hx hb hK hP 8 0 rfl rfl (by omega) (by decide) d_R_fill_104 ?_
      refine ec_vQv (C := "ExactMeshModel") (ci := 5) (q := (R_R, T_R, 18)) (q0 := 0) (As := [.int (nI (ur89.2.2.2.1 t)), .int (nI (ur89.2.2.1 t))]) (rest := []) ⟨hx, hb, hml, hown, htb⟩ (c_R_grow l dC dI a cI cZ cJ rn rx ry rl rf rt rh gx gy ur89.1 ur89.2.1 ur89.2.2.1 ur89.2.2.2.1 ur89.2.2.2.2.1 rk kc kf ur89.2.2.2.2.2 rest (ur89.2.2.2.1 t) (ur89.2.2.1 t) glr gS hlt1 (by have := e1.2.2; omega) (hlt1 t t1).2.2 (hlt1 t t1).2.1 (fun q => (hne1 t t1).2.1 q.symm) A hD) kv_R_grow hK hP rfl rfl rfl hS wd_586 ⟨Nat.le_of_ble_eq_true rfl, Nat.le_of_ble_eq_true rfl⟩ ⟨rfl, rfl⟩ rfl hl.1 rfl (Nat.le_of_ble_eq_true rfl) d_R_fill_105 ⟨Nat.zero_le _, Nat.zero_le _⟩ (fun ur105 H locs hr105 hP hS => ?_)
      replace hr105 : ec_GR rn (ec_P rx ry) (ec_E rl rf rt) ur89.1 ur89.2.1 ur89.2.2.1 ur89.2.2.2.1 ur89.2.2.2.2.1 (ur89.2.2.2.1 t) (ur89.2.2.1 t) ur105 := hr105
      replace hP : va_P (dC, dI) vwCl (wR a cI cZ cJ rn rx ry rl rf rt rh gx gy ur105.1 ur105.2.1 ur105.2.2.1 ur105.2.2.2.1 ur105.2.2.2.2.1 rk kc kf ur105.2.2.2.2.2 ++ rest) H := hP
      replace hD : va_D A (wR a cI cZ cJ rn rx ry rl rf rt rh gx gy ur105.1 ur105.2.1 ur105.2.2.1 ur105.2.2.2.1 ur105.2.2.2.2.1 rk kc kf ur105.2.2.2.2.2 ++ rest) := ec_Dk hD rfl
      have z2 := ec_grow_T gS gF e1 (Or.inr ⟨_, gF.rot _ _ _ (e1.1.1 t t1)⟩) hr105
      have e2 := z2.1
      have t2 : t < ur105.1 := by have := z2.2.1; omega
      have hlt2 := ec_RD.lt gF e2
      have hne2 := ec_RD.ne gF e2
      refine lv_aload_n hx hb d_R_fill_108 rfl (lv_at hl 0 rfl) ?_
      refine lv_aload_n hx hb d_R_fill_109 rfl (lv_at hl 0 rfl) ?_
      refine va_get (D := (dC, dI)) (ci := 5) (v := .ref (a 7)) (C := R_R) (T := T_R) (N := 18) hx hb htb in_R hown hK hP 0 rfl rfl 10 (by decide) (htb _ wd_459) (fun _ h9 => h9) rfl d_R_fill_110 ?_
      refine lv_iload_n hx hb d_R_fill_113 rfl (lv_at hl 1 rfl) ?_
      refine ec_ialdN (f := ur105.2.1) (i := t) hx hb hK hP 7 0 rfl rfl (by omega) (by decide) d_R_fill_114 ?_
      refine lv_aload_n hx hb d_R_fill_115 rfl (lv_at hl 0 rfl) ?_
      refine va_get (D := (dC, dI)) (ci := 5) (v := .ref (a 9)) (C := R_R) (T := T_R) (N := 18) hx hb htb in_R hown hK hP 0 rfl rfl 12 (by decide) (htb _ wd_461) (fun _ h9 => h9) rfl d_R_fill_116 ?_
      refine lv_iload_n hx hb d_R_fill_119 rfl (lv_at hl 1 rfl) ?_
      refine ec_ialdN (f := ur105.2.2.2.1) (i := t) hx hb hK hP 9 0 rfl rfl (by omega) (by decide) d_R_fill_120 ?_
      refine ec_vQv (C := "ExactMeshModel") (ci := 5) (q := (R_R, T_R, 18)) (q0 := 0) (As := [.int (nI (ur105.2.1 t)), .int (nI (ur105.2.2.2.1 t))]) (rest := []) ⟨hx, hb, hml, hown, htb⟩ (c_R_grow l dC dI a cI cZ cJ rn rx ry rl rf rt rh gx gy ur105.1 ur105.2.1 ur105.2.2.1 ur105.2.2.2.1 ur105.2.2.2.2.1 rk kc kf ur105.2.2.2.2.2 rest (ur105.2.1 t) (ur105.2.2.2.1 t) glr gS hlt2 (by have := e2.2.2; omega) (hlt2 t t2).1 (hlt2 t t2).2.2 (hne2 t t2).2.2 A hD) kv_R_grow hK hP rfl rfl rfl hS wd_586 ⟨Nat.le_of_ble_eq_true rfl, Nat.le_of_ble_eq_true rfl⟩ ⟨rfl, rfl⟩ rfl hl.1 rfl (Nat.le_of_ble_eq_true rfl) d_R_fill_121 ⟨Nat.zero_le _, Nat.zero_le _⟩ (fun ur121 H locs hr121 hP hS => ?_)
      replace hr121 : ec_GR rn (ec_P rx ry) (ec_E rl rf rt) ur105.1 ur105.2.1 ur105.2.2.1 ur105.2.2.2.1 ur105.2.2.2.2.1 (ur105.2.1 t) (ur105.2.2.2.1 t) ur121 := hr121
      replace hP : va_P (dC, dI) vwCl (wR a cI cZ cJ rn rx ry rl rf rt rh gx gy ur121.1 ur121.2.1 ur121.2.2.1 ur121.2.2.2.1 ur121.2.2.2.2.1 rk kc kf ur121.2.2.2.2.2 ++ rest) H := hP
      replace hD : va_D A (wR a cI cZ cJ rn rx ry rl rf rt rh gx gy ur121.1 ur121.2.1 ur121.2.2.1 ur121.2.2.2.1 ur121.2.2.2.2.1 rk kc kf ur121.2.2.2.2.2 ++ rest) := ec_Dk hD rfl
      have z3 := ec_grow_T gS gF e2 (Or.inr ⟨_, gF.rot _ _ _ (gF.rot _ _ _ (e2.1.1 t t2))⟩) hr121
      refine ec_iinc (k := 1) hx hb d_R_fill_124 hl rfl (by decide) rfl (fun ls hl => ?_)
      replace hl : lv_has ls 3 [(1, .int (nI (t + 1))), (0, .ref (a 0))] := hl
      refine lv_goto (tgt := 68) hx hb d_R_fill_127 rfl ?_
      exact ih68 _ (by omega) (t := t + 1) (n3 := ur121.1) (a3 := ur121.2.1) (b3 := ur121.2.2.1) (c3 := ur121.2.2.2.1) (g3 := ur121.2.2.2.2.1) (kq3 := ur121.2.2.2.2.2) (ls := ls) (H := H) (locs := locs) (hS := hS) (hl := lv_sub hl [1, 0] rfl) (hP := hP) (hD := hD) (hle3 := ⟨by have := z1.2.1; have := z2.2.1; have := z3.2.1; omega, z3.1.2.2⟩) (hJ3 := (ec_F2_step hJ3 hT73 z1 z2 z3)) (hk68 := rfl)
  · have hn1 := hJ.2.1
    refine lv_aload_n hx hb d_R_fill_15 rfl (lv_at hl 0 rfl) ?_
    refine va_get (D := (dC, dI)) (ci := 5) (v := .int (nI n1)) (C := R_R) (T := T_R) (N := 18) hx hb htb in_R hown hK hP 0 rfl rfl 9 (by decide) (htb _ wd_458) (fun _ h9 => h9) rfl d_R_fill_16 ?_
    refine ec_if_ne (tgt := 66) hx hb d_R_fill_19 rfl (by omega) (fun h19 => ?_) (fun h19 => ?_)
    · have hF0 := ec_F2_0 gS gF hJ (Or.inr h19)
      refine lv_iconst (v := nI 0) hx hb d_R_fill_66 (by decide) ?_
      refine lv_istore_n hx hb d_R_fill_67 rfl hl (by decide) rfl (fun ls hl => ?_)
      replace hl : lv_has ls 3 [(1, .int (nI 0)), (0, .ref (a 0))] := hl
      obtain ⟨t, e_t⟩ : ∃ z : Nat, z = 0 := ⟨_, rfl⟩
      obtain ⟨n3, e_n3⟩ : ∃ z : Nat, z = n1 := ⟨_, rfl⟩
      obtain ⟨a3, e_a3⟩ : ∃ z : Nat → Nat, z = a1 := ⟨_, rfl⟩
      obtain ⟨b3, e_b3⟩ : ∃ z : Nat → Nat, z = b1 := ⟨_, rfl⟩
      obtain ⟨c3, e_c3⟩ : ∃ z : Nat → Nat, z = c1 := ⟨_, rfl⟩
      obtain ⟨g3, e_g3⟩ : ∃ z : Nat → Prop, z = g1 := ⟨_, rfl⟩
      obtain ⟨kq3, e_kq3⟩ : ∃ z : Nat → Int64, z = kq1 := ⟨_, rfl⟩
      replace hl : lv_has ls 3 [(0, .ref (a 0)), (1, .int (nI t))] := by (try simp only [e_t, e_n3, e_a3, e_b3, e_c3, e_g3, e_kq3]); exact lv_sub hl [1, 0] rfl
      replace hP : va_P (dC, dI) vwCl (wR a cI cZ cJ rn rx ry rl rf rt rh gx gy n3 a3 b3 c3 g3 rk kc kf kq3 ++ rest) H := by (try simp only [e_t, e_n3, e_a3, e_b3, e_c3, e_g3, e_kq3]); exact hP
      replace hD : va_D A (wR a cI cZ cJ rn rx ry rl rf rt rh gx gy n3 a3 b3 c3 g3 rk kc kf kq3 ++ rest) := ec_Dk hD rfl
      have hle3 : t ≤ n3 ∧ n3 ≤ 19 := by simp only [e_t, e_n3, e_a3, e_b3, e_c3, e_g3, e_kq3]; exact ⟨Nat.zero_le _, hJ.1.2.2⟩
      have hJ3 : ec_F2 T0 n3 a3 b3 c3 g3 t := by simp only [e_t, e_n3, e_a3, e_b3, e_c3, e_g3, e_kq3]; exact hF0
      clear e_kq3 e_g3 e_c3 e_b3 e_a3 e_n3 e_t
      generalize hk68 : 20 - t = k68
      induction k68 using Nat.strongRecOn generalizing t n3 a3 b3 c3 g3 kq3 ls H locs with
      | ind k68 ih68 =>
      refine lv_iload_n hx hb d_R_fill_68 rfl (lv_at hl 1 rfl) ?_
      refine lv_aload_n hx hb d_R_fill_69 rfl (lv_at hl 0 rfl) ?_
      refine va_get (D := (dC, dI)) (ci := 5) (v := .int (nI n3)) (C := R_R) (T := T_R) (N := 18) hx hb htb in_R hown hK hP 0 rfl rfl 9 (by decide) (htb _ wd_458) (fun _ h9 => h9) rfl d_R_fill_70 ?_
      refine ec_icmp_ge (tgt := 130) hx hb d_R_fill_73 rfl (by omega) (by omega) (fun h73_1 => ?_) (fun h73_1 => ?_)
      · exact W.vret hx hb hr (fun tS ht hW => ⟨⟨(n3, a3, b3, c3, g3, kq3), rfl, (ec_RA_of gS gF hJ3 h73_1), by show va_P _ _ _ tS.heap; rw [ht]; exact hP⟩, hS.F ht⟩) hS.2.2 d_R_fill_130
      · have hT73 := h73_1
        have e0 := hJ3.1
        have hlt := ec_RD.lt gF e0
        have hne := ec_RD.ne gF e0
        refine lv_aload_n hx hb d_R_fill_76 rfl (lv_at hl 0 rfl) ?_
        refine lv_aload_n hx hb d_R_fill_77 rfl (lv_at hl 0 rfl) ?_
        refine va_get (D := (dC, dI)) (ci := 5) (v := .ref (a 8)) (C := R_R) (T := T_R) (N := 18) hx hb htb in_R hown hK hP 0 rfl rfl 11 (by decide) (htb _ wd_460) (fun _ h9 => h9) rfl d_R_fill_78 ?_
        refine lv_iload_n hx hb d_R_fill_81 rfl (lv_at hl 1 rfl) ?_
        refine ec_ialdN (f := b3) (i := t) hx hb hK hP 8 0 rfl rfl (by omega) (by decide) d_R_fill_82 ?_
        refine lv_aload_n hx hb d_R_fill_83 rfl (lv_at hl 0 rfl) ?_
        refine va_get (D := (dC, dI)) (ci := 5) (v := .ref (a 7)) (C := R_R) (T := T_R) (N := 18) hx hb htb in_R hown hK hP 0 rfl rfl 10 (by decide) (htb _ wd_459) (fun _ h9 => h9) rfl d_R_fill_84 ?_
        refine lv_iload_n hx hb d_R_fill_87 rfl (lv_at hl 1 rfl) ?_
        refine ec_ialdN (f := a3) (i := t) hx hb hK hP 7 0 rfl rfl (by omega) (by decide) d_R_fill_88 ?_
        refine ec_vQv (C := "ExactMeshModel") (ci := 5) (q := (R_R, T_R, 18)) (q0 := 0) (As := [.int (nI (b3 t)), .int (nI (a3 t))]) (rest := []) ⟨hx, hb, hml, hown, htb⟩ (c_R_grow l dC dI a cI cZ cJ rn rx ry rl rf rt rh gx gy n3 a3 b3 c3 g3 rk kc kf kq3 rest (b3 t) (a3 t) glr gS hlt (by have := e0.2.2; omega) (hlt t hT73).2.1 (hlt t hT73).1 (fun q => (hne t hT73).1 q.symm) A hD) kv_R_grow hK hP rfl rfl rfl hS wd_586 ⟨Nat.le_of_ble_eq_true rfl, Nat.le_of_ble_eq_true rfl⟩ ⟨rfl, rfl⟩ rfl hl.1 rfl (Nat.le_of_ble_eq_true rfl) d_R_fill_89 ⟨Nat.zero_le _, Nat.zero_le _⟩ (fun ur89_1 H locs hr89_1 hP hS => ?_)
        replace hr89_1 : ec_GR rn (ec_P rx ry) (ec_E rl rf rt) n3 a3 b3 c3 g3 (b3 t) (a3 t) ur89_1 := hr89_1
        replace hP : va_P (dC, dI) vwCl (wR a cI cZ cJ rn rx ry rl rf rt rh gx gy ur89_1.1 ur89_1.2.1 ur89_1.2.2.1 ur89_1.2.2.2.1 ur89_1.2.2.2.2.1 rk kc kf ur89_1.2.2.2.2.2 ++ rest) H := hP
        replace hD : va_D A (wR a cI cZ cJ rn rx ry rl rf rt rh gx gy ur89_1.1 ur89_1.2.1 ur89_1.2.2.1 ur89_1.2.2.2.1 ur89_1.2.2.2.2.1 rk kc kf ur89_1.2.2.2.2.2 ++ rest) := ec_Dk hD rfl
        have z1 := ec_grow_T gS gF e0 (Or.inr ⟨_, e0.1.1 t hT73⟩) hr89_1
        have e1 := z1.1
        have t1 : t < ur89_1.1 := by have := z1.2.1; omega
        have hlt1 := ec_RD.lt gF e1
        have hne1 := ec_RD.ne gF e1
        refine lv_aload_n hx hb d_R_fill_92 rfl (lv_at hl 0 rfl) ?_
        refine lv_aload_n hx hb d_R_fill_93 rfl (lv_at hl 0 rfl) ?_
        refine va_get (D := (dC, dI)) (ci := 5) (v := .ref (a 9)) (C := R_R) (T := T_R) (N := 18) hx hb htb in_R hown hK hP 0 rfl rfl 12 (by decide) (htb _ wd_461) (fun _ h9 => h9) rfl d_R_fill_94 ?_
        refine lv_iload_n hx hb d_R_fill_97 rfl (lv_at hl 1 rfl) ?_
        refine ec_ialdN (f := ur89_1.2.2.2.1) (i := t) hx hb hK hP 9 0 rfl rfl (by omega) (by decide) d_R_fill_98 ?_
        refine lv_aload_n hx hb d_R_fill_99 rfl (lv_at hl 0 rfl) ?_
        refine va_get (D := (dC, dI)) (ci := 5) (v := .ref (a 8)) (C := R_R) (T := T_R) (N := 18) hx hb htb in_R hown hK hP 0 rfl rfl 11 (by decide) (htb _ wd_460) (fun _ h9 => h9) rfl d_R_fill_100 ?_
        refine lv_iload_n hx hb d_R_fill_103 rfl (lv_at hl 1 rfl) ?_
        refine ec_ialdN (f := ur89_1.2.2.1) (i := t) hx hb hK hP 8 0 rfl rfl (by omega) (by decide) d_R_fill_104 ?_
        refine ec_vQv (C := "ExactMeshModel") (ci := 5) (q := (R_R, T_R, 18)) (q0 := 0) (As := [.int (nI (ur89_1.2.2.2.1 t)), .int (nI (ur89_1.2.2.1 t))]) (rest := []) ⟨hx, hb, hml, hown, htb⟩ (c_R_grow l dC dI a cI cZ cJ rn rx ry rl rf rt rh gx gy ur89_1.1 ur89_1.2.1 ur89_1.2.2.1 ur89_1.2.2.2.1 ur89_1.2.2.2.2.1 rk kc kf ur89_1.2.2.2.2.2 rest (ur89_1.2.2.2.1 t) (ur89_1.2.2.1 t) glr gS hlt1 (by have := e1.2.2; omega) (hlt1 t t1).2.2 (hlt1 t t1).2.1 (fun q => (hne1 t t1).2.1 q.symm) A hD) kv_R_grow hK hP rfl rfl rfl hS wd_586 ⟨Nat.le_of_ble_eq_true rfl, Nat.le_of_ble_eq_true rfl⟩ ⟨rfl, rfl⟩ rfl hl.1 rfl (Nat.le_of_ble_eq_true rfl) d_R_fill_105 ⟨Nat.zero_le _, Nat.zero_le _⟩ (fun ur105_1 H locs hr105_1 hP hS => ?_)
        replace hr105_1 : ec_GR rn (ec_P rx ry) (ec_E rl rf rt) ur89_1.1 ur89_1.2.1 ur89_1.2.2.1 ur89_1.2.2.2.1 ur89_1.2.2.2.2.1 (ur89_1.2.2.2.1 t) (ur89_1.2.2.1 t) ur105_1 := hr105_1
        replace hP : va_P (dC, dI) vwCl (wR a cI cZ cJ rn rx ry rl rf rt rh gx gy ur105_1.1 ur105_1.2.1 ur105_1.2.2.1 ur105_1.2.2.2.1 ur105_1.2.2.2.2.1 rk kc kf ur105_1.2.2.2.2.2 ++ rest) H := hP
        replace hD : va_D A (wR a cI cZ cJ rn rx ry rl rf rt rh gx gy ur105_1.1 ur105_1.2.1 ur105_1.2.2.1 ur105_1.2.2.2.1 ur105_1.2.2.2.2.1 rk kc kf ur105_1.2.2.2.2.2 ++ rest) := ec_Dk hD rfl
        have z2 := ec_grow_T gS gF e1 (Or.inr ⟨_, gF.rot _ _ _ (e1.1.1 t t1)⟩) hr105_1
        have e2 := z2.1
        have t2 : t < ur105_1.1 := by have := z2.2.1; omega
        have hlt2 := ec_RD.lt gF e2
        have hne2 := ec_RD.ne gF e2
        refine lv_aload_n hx hb d_R_fill_108 rfl (lv_at hl 0 rfl) ?_
        refine lv_aload_n hx hb d_R_fill_109 rfl (lv_at hl 0 rfl) ?_
        refine va_get (D := (dC, dI)) (ci := 5) (v := .ref (a 7)) (C := R_R) (T := T_R) (N := 18) hx hb htb in_R hown hK hP 0 rfl rfl 10 (by decide) (htb _ wd_459) (fun _ h9 => h9) rfl d_R_fill_110 ?_
        refine lv_iload_n hx hb d_R_fill_113 rfl (lv_at hl 1 rfl) ?_
        refine ec_ialdN (f := ur105_1.2.1) (i := t) hx hb hK hP 7 0 rfl rfl (by omega) (by decide) d_R_fill_114 ?_
        refine lv_aload_n hx hb d_R_fill_115 rfl (lv_at hl 0 rfl) ?_
        refine va_get (D := (dC, dI)) (ci := 5) (v := .ref (a 9)) (C := R_R) (T := T_R) (N := 18) hx hb htb in_R hown hK hP 0 rfl rfl 12 (by decide) (htb _ wd_461) (fun _ h9 => h9) rfl d_R_fill_116 ?_
        refine lv_iload_n hx hb d_R_fill_119 rfl (lv_at hl 1 rfl) ?_
        refine ec_ialdN (f := ur105_1.2.2.2.1) (i := t) hx hb hK hP 9 0 rfl rfl (by omega) (by decide) d_R_fill_120 ?_
        refine ec_vQv (C := "ExactMeshModel") (ci := 5) (q := (R_R, T_R, 18)) (q0 := 0) (As := [.int (nI (ur105_1.2.1 t)), .int (nI (ur105_1.2.2.2.1 t))]) (rest := []) ⟨hx, hb, hml, hown, htb⟩ (c_R_grow l dC dI a cI cZ cJ rn rx ry rl rf rt rh gx gy ur105_1.1 ur105_1.2.1 ur105_1.2.2.1 ur105_1.2.2.2.1 ur105_1.2.2.2.2.1 rk kc kf ur105_1.2.2.2.2.2 rest (ur105_1.2.1 t) (ur105_1.2.2.2.1 t) glr gS hlt2 (by have := e2.2.2; omega) (hlt2 t t2).1 (hlt2 t t2).2.2 (hne2 t t2).2.2 A hD) kv_R_grow hK hP rfl rfl rfl hS wd_586 ⟨Nat.le_of_ble_eq_true rfl, Nat.le_of_ble_eq_true rfl⟩ ⟨rfl, rfl⟩ rfl hl.1 rfl (Nat.le_of_ble_eq_true rfl) d_R_fill_121 ⟨Nat.zero_le _, Nat.zero_le _⟩ (fun ur121_1 H locs hr121_1 hP hS => ?_)
        replace hr121_1 : ec_GR rn (ec_P rx ry) (ec_E rl rf rt) ur105_1.1 ur105_1.2.1 ur105_1.2.2.1 ur105_1.2.2.2.1 ur105_1.2.2.2.2.1 (ur105_1.2.1 t) (ur105_1.2.2.2.1 t) ur121_1 := hr121_1
        replace hP : va_P (dC, dI) vwCl (wR a cI cZ cJ rn rx ry rl rf rt rh gx gy ur121_1.1 ur121_1.2.1 ur121_1.2.2.1 ur121_1.2.2.2.1 ur121_1.2.2.2.2.1 rk kc kf ur121_1.2.2.2.2.2 ++ rest) H := hP
        replace hD : va_D A (wR a cI cZ cJ rn rx ry rl rf rt rh gx gy ur121_1.1 ur121_1.2.1 ur121_1.2.2.1 ur121_1.2.2.2.1 ur121_1.2.2.2.2.1 rk kc kf ur121_1.2.2.2.2.2 ++ rest) := ec_Dk hD rfl
        have z3 := ec_grow_T gS gF e2 (Or.inr ⟨_, gF.rot _ _ _ (gF.rot _ _ _ (e2.1.1 t t2))⟩) hr121_1
        refine ec_iinc (k := 1) hx hb d_R_fill_124 hl rfl (by decide) rfl (fun ls hl => ?_)
        replace hl : lv_has ls 3 [(1, .int (nI (t + 1))), (0, .ref (a 0))] := hl
        refine lv_goto (tgt := 68) hx hb d_R_fill_127 rfl ?_
        exact ih68 _ (by omega) (t := t + 1) (n3 := ur121_1.1) (a3 := ur121_1.2.1) (b3 := ur121_1.2.2.1) (c3 := ur121_1.2.2.2.1) (g3 := ur121_1.2.2.2.2.1) (kq3 := ur121_1.2.2.2.2.2) (ls := ls) (H := H) (locs := locs) (hS := hS) (hl := lv_sub hl [1, 0] rfl) (hP := hP) (hD := hD) (hle3 := ⟨by have := z1.2.1; have := z2.2.1; have := z3.2.1; omega, z3.1.2.2⟩) (hJ3 := (ec_F2_step hJ3 hT73 z1 z2 z3)) (hk68 := rfl)
    · refine lv_iconst (v := nI 0) hx hb d_R_fill_22 (by decide) ?_
      refine lv_istore_n hx hb d_R_fill_23 rfl hl (by decide) rfl (fun ls hl => ?_)
      replace hl : lv_has ls 3 [(2, .int (nI 0)), (0, .ref (a 0)), (1, .int (nI i))] := hl
      obtain ⟨j, e_j⟩ : ∃ z : Nat, z = 0 := ⟨_, rfl⟩
      obtain ⟨n2, e_n2⟩ : ∃ z : Nat, z = n1 := ⟨_, rfl⟩
      obtain ⟨a2, e_a2⟩ : ∃ z : Nat → Nat, z = a1 := ⟨_, rfl⟩
      obtain ⟨b2, e_b2⟩ : ∃ z : Nat → Nat, z = b1 := ⟨_, rfl⟩
      obtain ⟨c2, e_c2⟩ : ∃ z : Nat → Nat, z = c1 := ⟨_, rfl⟩
      obtain ⟨g2, e_g2⟩ : ∃ z : Nat → Prop, z = g1 := ⟨_, rfl⟩
      obtain ⟨kq2, e_kq2⟩ : ∃ z : Nat → Int64, z = kq1 := ⟨_, rfl⟩
      replace hl : lv_has ls 3 [(0, .ref (a 0)), (1, .int (nI i)), (2, .int (nI j))] := by (try simp only [e_j, e_n2, e_a2, e_b2, e_c2, e_g2, e_kq2]); exact lv_sub hl [1, 2, 0] rfl
      replace hP : va_P (dC, dI) vwCl (wR a cI cZ cJ rn rx ry rl rf rt rh gx gy n2 a2 b2 c2 g2 rk kc kf kq2 ++ rest) H := by (try simp only [e_j, e_n2, e_a2, e_b2, e_c2, e_g2, e_kq2]); exact hP
      replace hD : va_D A (wR a cI cZ cJ rn rx ry rl rf rt rh gx gy n2 a2 b2 c2 g2 rk kc kf kq2 ++ rest) := ec_Dk hD rfl
      have hle2 : j ≤ rn := by omega
      have hJ2 : ec_F1 T0 rn (ec_P rx ry) n2 a2 b2 c2 g2 i j := by simp only [e_j, e_n2, e_a2, e_b2, e_c2, e_g2, e_kq2]; exact hJ
      clear e_kq2 e_g2 e_c2 e_b2 e_a2 e_n2 e_j
      generalize hk24 : rn - j = k24
      induction k24 using Nat.strongRecOn generalizing j n2 a2 b2 c2 g2 kq2 ls H locs with
      | ind k24 ih24 =>
      refine lv_iload_n hx hb d_R_fill_24 rfl (lv_at hl 2 rfl) ?_
      refine lv_aload_n hx hb d_R_fill_25 rfl (lv_at hl 0 rfl) ?_
      refine va_get (D := (dC, dI)) (ci := 5) (v := .int (nI rn)) (C := R_R) (T := T_R) (N := 18) hx hb htb in_R hown hK hP 0 rfl rfl 0 (by decide) (htb _ wd_449) (fun _ h9 => h9) rfl d_R_fill_26 ?_
      refine ec_icmp_ge (tgt := 60) hx hb d_R_fill_29 rfl (by omega) (by omega) (fun h29 => ?_) (fun h29 => ?_)
      · refine ec_iinc (k := 1) hx hb d_R_fill_60 hl rfl (by decide) rfl (fun ls hl => ?_)
        replace hl : lv_has ls 3 [(1, .int (nI (i + 1))), (0, .ref (a 0)), (2, .int (nI j))] := hl
        refine lv_goto (tgt := 7) hx hb d_R_fill_63 rfl ?_
        exact ih7 _ (by omega) (i := i + 1) (n1 := n2) (a1 := a2) (b1 := b2) (c1 := c2) (g1 := g2) (kq1 := kq2) (ls := ls) (H := H) (locs := locs) (hS := hS) (hl := lv_sub hl [1, 0] rfl) (hP := hP) (hD := hD) (hle := (by omega)) (hJ := (ec_F1_row hJ2 (Or.inl h29))) (hk7 := rfl)
      · have hn2 := hJ2.2.1
        refine lv_aload_n hx hb d_R_fill_32 rfl (lv_at hl 0 rfl) ?_
        refine va_get (D := (dC, dI)) (ci := 5) (v := .int (nI n2)) (C := R_R) (T := T_R) (N := 18) hx hb htb in_R hown hK hP 0 rfl rfl 9 (by decide) (htb _ wd_458) (fun _ h9 => h9) rfl d_R_fill_33 ?_
        refine ec_if_ne (tgt := 60) hx hb d_R_fill_36 rfl (by omega) (fun h36 => ?_) (fun h36 => ?_)
        · refine ec_iinc (k := 1) hx hb d_R_fill_60 hl rfl (by decide) rfl (fun ls hl => ?_)
          replace hl : lv_has ls 3 [(1, .int (nI (i + 1))), (0, .ref (a 0)), (2, .int (nI j))] := hl
          refine lv_goto (tgt := 7) hx hb d_R_fill_63 rfl ?_
          exact ih7 _ (by omega) (i := i + 1) (n1 := n2) (a1 := a2) (b1 := b2) (c1 := c2) (g1 := g2) (kq1 := kq2) (ls := ls) (H := H) (locs := locs) (hS := hS) (hl := lv_sub hl [1, 0] rfl) (hP := hP) (hD := hD) (hle := (by omega)) (hJ := (ec_F1_row hJ2 (Or.inr h36))) (hk7 := rfl)
        · refine lv_aload_n hx hb d_R_fill_39 rfl (lv_at hl 0 rfl) ?_
          refine lv_iload_n hx hb d_R_fill_40 rfl (lv_at hl 1 rfl) ?_
          refine lv_iload_n hx hb d_R_fill_41 rfl (lv_at hl 2 rfl) ?_
          refine ec_vSi (C := "ExactMeshModel") (ci := 5) (q := (R_R, T_R, 18)) (q0 := 0) (As := [.int (nI i), .int (nI j)]) (rest := []) ⟨hx, hb, hml, hown, htb⟩ (c_R_onHull l dC dI a cI cZ cJ rn rx ry rl rf rt rh gx gy n2 a2 b2 c2 g2 rk kc kf kq2 rest i j g12 gN (by omega) (by omega)) kv_R_onHull hK hP rfl rfl rfl wd_582 ⟨Nat.le_of_ble_eq_true rfl, Nat.le_of_ble_eq_true rfl⟩ ⟨rfl, rfl⟩ rfl hl.1 rfl (Nat.le_of_ble_eq_true rfl) d_R_fill_42 ⟨Nat.zero_le _, Nat.zero_le _⟩ (fun r42 hr42 => ?_)
          replace hr42 : ec_isB r42 (ec_hul rn (ec_P rx ry) i j) := hr42
          refine ec_if_eqB (tgt := 54) hx hb hr42 d_R_fill_45 rfl (fun h45 => ?_) (fun h45 => ?_)
          · refine ec_iinc (k := 2) hx hb d_R_fill_54 hl rfl (by decide) rfl (fun ls hl => ?_)
            replace hl : lv_has ls 3 [(2, .int (nI (j + 1))), (0, .ref (a 0)), (1, .int (nI i))] := hl
            refine lv_goto (tgt := 24) hx hb d_R_fill_57 rfl ?_
            exact ih24 _ (by omega) (j := j + 1) (n2 := n2) (a2 := a2) (b2 := b2) (c2 := c2) (g2 := g2) (kq2 := kq2) (ls := ls) (H := H) (locs := locs) (hS := hS) (hl := lv_sub hl [1, 2, 0] rfl) (hP := hP) (hD := hD) (hle2 := (by omega)) (hJ2 := (ec_F1_no hJ2 h45)) (hk24 := rfl)
          · have hTT := ec_hul_T gS gF h12 h29 h45
            refine lv_aload_n hx hb d_R_fill_48 rfl (lv_at hl 0 rfl) ?_
            refine lv_iload_n hx hb d_R_fill_49 rfl (lv_at hl 1 rfl) ?_
            refine lv_iload_n hx hb d_R_fill_50 rfl (lv_at hl 2 rfl) ?_
            refine ec_vQv (C := "ExactMeshModel") (ci := 5) (q := (R_R, T_R, 18)) (q0 := 0) (As := [.int (nI i), .int (nI j)]) (rest := []) ⟨hx, hb, hml, hown, htb⟩ (c_R_grow l dC dI a cI cZ cJ rn rx ry rl rf rt rh gx gy n2 a2 b2 c2 g2 rk kc kf kq2 rest i j glr gS (ec_RD.lt gF hJ2.1) (by have := hJ2.1.2.2; omega) (by omega) (by omega) h45.1 A hD) kv_R_grow hK hP rfl rfl rfl hS wd_586 ⟨Nat.le_of_ble_eq_true rfl, Nat.le_of_ble_eq_true rfl⟩ ⟨rfl, rfl⟩ rfl hl.1 rfl (Nat.le_of_ble_eq_true rfl) d_R_fill_51 ⟨Nat.zero_le _, Nat.zero_le _⟩ (fun ur51 H locs hr51 hP hS => ?_)
            replace hr51 : ec_GR rn (ec_P rx ry) (ec_E rl rf rt) n2 a2 b2 c2 g2 i j ur51 := hr51
            replace hP : va_P (dC, dI) vwCl (wR a cI cZ cJ rn rx ry rl rf rt rh gx gy ur51.1 ur51.2.1 ur51.2.2.1 ur51.2.2.2.1 ur51.2.2.2.2.1 rk kc kf ur51.2.2.2.2.2 ++ rest) H := hP
            replace hD : va_D A (wR a cI cZ cJ rn rx ry rl rf rt rh gx gy ur51.1 ur51.2.1 ur51.2.2.1 ur51.2.2.2.1 ur51.2.2.2.2.1 rk kc kf ur51.2.2.2.2.2 ++ rest) := ec_Dk hD rfl
            refine ec_iinc (k := 2) hx hb d_R_fill_54 hl rfl (by decide) rfl (fun ls hl => ?_)
            replace hl : lv_has ls 3 [(2, .int (nI (j + 1))), (0, .ref (a 0)), (1, .int (nI i))] := hl
            refine lv_goto (tgt := 24) hx hb d_R_fill_57 rfl ?_
            exact ih24 _ (by omega) (j := j + 1) (n2 := ur51.1) (a2 := ur51.2.1) (b2 := ur51.2.2.1) (c2 := ur51.2.2.2.1) (g2 := ur51.2.2.2.2.1) (kq2 := ur51.2.2.2.2.2) (ls := ls) (H := H) (locs := locs) (hS := hS) (hl := lv_sub hl [1, 2, 0] rfl) (hP := hP) (hD := hD) (hle2 := (by omega)) (hJ2 := (ec_F1_yes h36 hTT (ec_grow_T gS gF hJ2.1 (Or.inl hTT) hr51))) (hk24 := rfl)

set_option maxRecDepth 100000 in
set_option maxHeartbeats 4000000 in
theorem c_R_carve (l : Launch) (dC : Nat → ClassId) (dI : Nat → Nat → Nat) (a : Nat → Nat) (cI cZ cJ : ClassId) (rn : Nat) (rx : Nat → Int32) (ry : Nat → Int32) (rl : Nat) (rf : Nat → Nat) (rt : Nat → Nat) (rh : Nat) (gx : Nat → Int32) (gy : Nat → Int32) (rc : Nat) (w1 : Nat → Nat) (w2 : Nat → Nat) (w3 : Nat → Nat) (rg : Nat → Prop) (rk : Nat) (kc : Nat → Nat) (kf : Nat → Prop) (kp : Nat → Int64) (rest : va_W) (bh : Int32) (bo : Int32) (glr : Nat → Nat) (T0 : Nat → Nat → Nat → Prop) (P_bh : Prop) (P_bo : Prop) (gS : ec_SI rn rx ry rl rf rt glr) (g3 : rh ≤ 3) (gF : ec_Full rn rx ry rl rf rt T0) (gA : ec_RA T0 rc w1 w2 w3 rg) (h_bh : ec_isB bh P_bh) (h_bo : ec_isB bo P_bo) (A : Nat → Prop) (hD : va_D A (wR a cI cZ cJ rn rx ry rl rf rt rh gx gy rc w1 w2 w3 rg rk kc kf kp ++ rest)) : Met l y_R_carve (Cond.code y_R_carve b_R_carve 5 none :: ec_tbl) ({ frames := 3, cells := 0, slots := 0, locals := 84 }) (va_Pc [.ref (a 0), .int bh, .int bo] (fun U => va_P (dC, dI) vwCl (wR a cI cZ cJ rn rx ry rl rf rt rh gx gy rc w1 w2 w3 rg rk kc kf kp ++ rest) U.heap ∧ va_K (dC, dI) vwCl (ec_tys cI cZ cJ) U)) (va_Qv (fun (u : Nat → Prop) => ∀ t, t < rc → (u t ↔ ec_Gone T0 (ec_E rl rf rt) (ec_Sd T0 (ec_E rl rf rt) rx ry rh gx gy P_bh P_bo) (w1 t) (w2 t) (w3 t))) (fun u t => va_P (dC, dI) vwCl (wR a cI cZ cJ rn rx ry rl rf rt rh gx gy rc w1 w2 w3 u rk kc kf kp ++ rest) t.heap) A) 0 0 A := by
  refine Met.ofW (cc := b_R_carve) (maxL := 5) (ret := none) (by decide) rfl ?_
  intro p e s m args below meth c s₁ B hml hv0
  obtain ⟨rfl, hP, hK⟩ := hv0
  have hx := B.exec
  have hb := B.bytes
  have hr := B.returns
  have hts := atoms_spec (ws := (Cond.code y_R_carve b_R_carve 5 none :: ec_tbl)) B.pre
  have htb : ∀ w ∈ ec_tbl, w.before _ s = true := fun w h => hts w (List.mem_cons_of_mem _ h)
  clear hts
  have hown : s.vm.findClass "ExactMeshModel" = some m.cls := findClass_of_methodNamed B.named
  have hlocks := B.notSynchronized
  have hl := lv_entry ([.ref (a 0), .int bh, .int bo]) (n := 5) (Nat.le_of_ble_eq_true rfl)
  rw [lg_entry_eq]
  generalize (lg_sl ([.ref (a 0), .int bh, .int bo]) ++ List.replicate (5 - (lg_sl ([.ref (a 0), .int bh, .int bo])).length) Slot.unset).toArray = ls at hl ⊢
  replace hl : lv_has ls 5 [(0, .ref (a 0)), (1, .int bh), (2, .int bo)] := hl
  refine ec_start (fun H locs hH hlocs => ?_)
  replace hP : va_P (dC, dI) vwCl (wR a cI cZ cJ rn rx ry rl rf rt rh gx gy rc w1 w2 w3 rg rk kc kf kp ++ rest) H := by rw [hH]; exact hP
  have hS : va_S A s.heap H locs := by rw [hH, hlocs]; exact va_S.rf
  clear hH hlocs
  have g12 := gS.1
  have gN := gS.2.1
  have grl := gS.2.2.2.1
  have gll := gS.links
  have gw := ec_RD.lt gF gA.1
  have grc : rc ≤ 24 := by have := gA.1.2.2; omega
  have guq := ec_uq3_of gF gA.1
  refine lv_iconst (v := nI 0) hx hb d_R_carve_0 (by decide) ?_
  refine lv_istore_n hx hb d_R_carve_1 rfl hl (by decide) rfl (fun ls hl => ?_)
  replace hl : lv_has ls 5 [(3, .int (nI 0)), (0, .ref (a 0)), (1, .int bh), (2, .int bo)] := hl
  obtain ⟨t, e_t⟩ : ∃ z : Nat, z = 0 := ⟨_, rfl⟩
  obtain ⟨g1, e_g1⟩ : ∃ z : Nat → Prop, z = rg := ⟨_, rfl⟩
  replace hl : lv_has ls 5 [(0, .ref (a 0)), (1, .int bh), (2, .int bo), (3, .int (nI t))] := by (try simp only [e_t, e_g1]); exact lv_sub hl [1, 2, 3, 0] rfl
  replace hP : va_P (dC, dI) vwCl (wR a cI cZ cJ rn rx ry rl rf rt rh gx gy rc w1 w2 w3 g1 rk kc kf kp ++ rest) H := by (try simp only [e_t, e_g1]); exact hP
  replace hD : va_D A (wR a cI cZ cJ rn rx ry rl rf rt rh gx gy rc w1 w2 w3 g1 rk kc kf kp ++ rest) := ec_Dk hD rfl
  have hle : t ≤ rc := by omega
  have hJ : ec_C1 rc (fun u => (ec_Sd T0 (ec_E rl rf rt) rx ry rh gx gy P_bh P_bo) (w1 u) (w2 u) (w3 u)) g1 t := by simp only [e_t, e_g1]; exact ec_C1_0 gA.1.2.1
  clear e_g1 e_t
  generalize hk2 : rc - t = k2
  induction k2 using Nat.strongRecOn generalizing t g1 ls H locs with
  | ind k2 ih2 =>
  refine lv_iload_n hx hb d_R_carve_2 rfl (lv_at hl 3 rfl) ?_
  refine lv_aload_n hx hb d_R_carve_3 rfl (lv_at hl 0 rfl) ?_
  refine va_get (D := (dC, dI)) (ci := 5) (v := .int (nI rc)) (C := R_R) (T := T_R) (N := 18) hx hb htb in_R hown hK hP 0 rfl rfl 9 (by decide) (htb _ wd_458) (fun _ h9 => h9) rfl d_R_carve_4 ?_
  refine ec_icmp_ge (tgt := 180) hx hb d_R_carve_7 rfl (by omega) (by omega) (fun h7 => ?_) (fun h7 => ?_)
  · have hQ0 := ec_RQ_0 (bs := (ec_bsR rc w1 w2 w3 (ec_E rl rf rt))) (fun u hu => (hJ u hu).1 (by omega))
    refine lv_iconst (v := nI 0) hx hb d_R_carve_180 (by decide) ?_
    refine lv_istore_n hx hb d_R_carve_181 rfl hl (by decide) rfl (fun ls hl => ?_)
    replace hl : lv_has ls 5 [(3, .int (nI 0)), (0, .ref (a 0)), (1, .int bh), (2, .int bo)] := hl
    obtain ⟨ro, e_ro⟩ : ∃ z : Nat, z = 0 := ⟨_, rfl⟩
    obtain ⟨g3, e_g3⟩ : ∃ z : Nat → Prop, z = g1 := ⟨_, rfl⟩
    replace hl : lv_has ls 5 [(0, .ref (a 0)), (3, .int (nI ro))] := by (try simp only [e_ro, e_g3]); exact lv_sub hl [1, 0] rfl
    replace hP : va_P (dC, dI) vwCl (wR a cI cZ cJ rn rx ry rl rf rt rh gx gy rc w1 w2 w3 g3 rk kc kf kp ++ rest) H := by (try simp only [e_ro, e_g3]); exact hP
    replace hD : va_D A (wR a cI cZ cJ rn rx ry rl rf rt rh gx gy rc w1 w2 w3 g3 rk kc kf kp ++ rest) := ec_Dk hD rfl
    have hle3 : ro ≤ rc := by omega
    have hQ : ec_RQ rc (ec_bsR rc w1 w2 w3 (ec_E rl rf rt)) (fun u => (ec_Sd T0 (ec_E rl rf rt) rx ry rh gx gy P_bh P_bo) (w1 u) (w2 u) (w3 u)) g3 ro := by simp only [e_ro, e_g3]; exact hQ0
    clear e_g3 e_ro
    generalize hk182 : rc - ro = k182
    induction k182 using Nat.strongRecOn generalizing ro g3 ls H locs with
    | ind k182 ih182 =>
    refine lv_iload_n hx hb d_R_carve_182 rfl (lv_at hl 1 rfl) ?_
    refine lv_aload_n hx hb d_R_carve_183 rfl (lv_at hl 0 rfl) ?_
    refine va_get (D := (dC, dI)) (ci := 5) (v := .int (nI rc)) (C := R_R) (T := T_R) (N := 18) hx hb htb in_R hown hK hP 0 rfl rfl 9 (by decide) (htb _ wd_458) (fun _ h9 => h9) rfl d_R_carve_184 ?_
    refine ec_icmp_ge (tgt := 299) hx hb d_R_carve_187 rfl (by omega) (by omega) (fun h187 => ?_) (fun h187 => ?_)
    · exact W.vret hx hb hr (fun tS ht hW => ⟨⟨g3, rfl, (ec_carveR gF gA (fun a b c q => ec_Sd_rot q) (ec_RQ_end hQ h187)), by show va_P _ _ _ tS.heap; rw [ht]; exact hP⟩, hS.F ht⟩) hS.2.2 d_R_carve_299
    · refine lv_iconst (v := nI 0) hx hb d_R_carve_190 (by decide) ?_
      refine lv_istore hx hb d_R_carve_191 hl (by decide) rfl (fun ls hl => ?_)
      replace hl : lv_has ls 5 [(4, .int (nI 0)), (0, .ref (a 0)), (3, .int (nI ro))] := hl
      obtain ⟨t4, e_t4⟩ : ∃ z : Nat, z = 0 := ⟨_, rfl⟩
      obtain ⟨g4, e_g4⟩ : ∃ z : Nat → Prop, z = g3 := ⟨_, rfl⟩
      replace hl : lv_has ls 5 [(0, .ref (a 0)), (3, .int (nI ro)), (4, .int (nI t4))] := by (try simp only [e_t4, e_g4]); exact lv_sub hl [1, 2, 0] rfl
      replace hP : va_P (dC, dI) vwCl (wR a cI cZ cJ rn rx ry rl rf rt rh gx gy rc w1 w2 w3 g4 rk kc kf kp ++ rest) H := by (try simp only [e_t4, e_g4]); exact hP
      replace hD : va_D A (wR a cI cZ cJ rn rx ry rl rf rt rh gx gy rc w1 w2 w3 g4 rk kc kf kp ++ rest) := ec_Dk hD rfl
      have hle4 : t4 ≤ rc := by omega
      have hQ2 : ec_RP rc (ec_bsR rc w1 w2 w3 (ec_E rl rf rt)) (fun u => (ec_Sd T0 (ec_E rl rf rt) rx ry rh gx gy P_bh P_bo) (w1 u) (w2 u) (w3 u)) g3 g4 t4 := by simp only [e_t4, e_g4]; exact ec_RP_0 hQ
      clear e_g4 e_t4
      generalize hk193 : rc - t4 = k193
      induction k193 using Nat.strongRecOn generalizing t4 g4 ls H locs with
      | ind k193 ih193 =>
      refine lv_iload hx hb d_R_carve_193 (lv_at hl 2 rfl) ?_
      refine lv_aload_n hx hb d_R_carve_195 rfl (lv_at hl 0 rfl) ?_
      refine va_get (D := (dC, dI)) (ci := 5) (v := .int (nI rc)) (C := R_R) (T := T_R) (N := 18) hx hb htb in_R hown hK hP 0 rfl rfl 9 (by decide) (htb _ wd_458) (fun _ h9 => h9) rfl d_R_carve_196 ?_
      refine ec_icmp_ge (tgt := 293) hx hb d_R_carve_199 rfl (by omega) (by omega) (fun h199 => ?_) (fun h199 => ?_)
      · refine ec_iinc (k := 1) hx hb d_R_carve_293 hl rfl (by decide) rfl (fun ls hl => ?_)
        replace hl : lv_has ls 5 [(3, .int (nI (ro + 1))), (0, .ref (a 0)), (4, .int (nI t4))] := hl
        refine lv_goto (tgt := 182) hx hb d_R_carve_296 rfl ?_
        exact ih182 _ (by omega) (ro := ro + 1) (g3 := g4) (ls := ls) (H := H) (locs := locs) (hS := hS) (hl := lv_sub hl [1, 0] rfl) (hP := hP) (hD := hD) (hle3 := (by omega)) (hQ := (ec_RQ_row ec_bsR_he hQ hQ2 h199 hle4)) (hk182 := rfl)
      · have qw := gw t4 (by omega)
        refine lv_aload_n hx hb d_R_carve_202 rfl (lv_at hl 0 rfl) ?_
        refine va_get (D := (dC, dI)) (ci := 5) (v := .ref (a 10)) (C := R_R) (T := T_R) (N := 18) hx hb htb in_R hown hK hP 0 rfl rfl 13 (by decide) (htb _ wd_462) (fun _ h9 => h9) rfl d_R_carve_203 ?_
        refine lv_iload hx hb d_R_carve_206 (lv_at hl 2 rfl) ?_
        refine lv_aload_n hx hb d_R_carve_208 rfl (lv_at hl 0 rfl) ?_
        refine va_get (D := (dC, dI)) (ci := 5) (v := .ref (a 10)) (C := R_R) (T := T_R) (N := 18) hx hb htb in_R hown hK hP 0 rfl rfl 13 (by decide) (htb _ wd_462) (fun _ h9 => h9) rfl d_R_carve_209 ?_
        refine lv_iload hx hb d_R_carve_212 (lv_at hl 2 rfl) ?_
        refine ec_zaldZ (f := g4) (i := t4) hx hb hK hP 10 1 rfl rfl (by omega) (by decide) d_R_carve_214 ?_
        refine ec_if_neB (tgt := 281) hx hb (ec_bp_is _) d_R_carve_215 rfl (fun h215 => ?_) (fun h215 => ?_)
        · refine lv_iconst (v := nI 1) hx hb d_R_carve_281 (by decide) ?_
          refine lv_goto (tgt := 286) hx hb d_R_carve_282 rfl ?_
          refine ec_zastZ (f := g4) (i := t4) (x := True) hx hb hK hP hD hS 10 1 rfl rfl (ec_bp_t trivial).symm (by omega) (by decide) d_R_carve_286 (fun H locs hP hD hS => ?_)
          replace hP : va_P (dC, dI) vwCl (wR a cI cZ cJ rn rx ry rl rf rt rh gx gy rc w1 w2 w3 (va_up g4 t4 True) rk kc kf kp ++ rest) H := hP
          replace hD : va_D A (wR a cI cZ cJ rn rx ry rl rf rt rh gx gy rc w1 w2 w3 (va_up g4 t4 True) rk kc kf kp ++ rest) := hD
          refine ec_iinc (k := 2) hx hb d_R_carve_287 hl rfl (by decide) rfl (fun ls hl => ?_)
          replace hl : lv_has ls 5 [(4, .int (nI (t4 + 1))), (0, .ref (a 0)), (3, .int (nI ro))] := hl
          refine lv_goto (tgt := 193) hx hb d_R_carve_290 rfl ?_
          exact ih193 _ (by omega) (t4 := t4 + 1) (g4 := va_up g4 t4 True) (ls := ls) (H := H) (locs := locs) (hS := hS) (hl := lv_sub hl [1, 2, 0] rfl) (hP := hP) (hD := hD) (hle4 := (by omega)) (hQ2 := (ec_RP_t ec_bsR_he ec_bsR_mono hQ2 h199 (Or.inl h215))) (hk193 := rfl)
        · refine lv_aload_n hx hb d_R_carve_218 rfl (lv_at hl 0 rfl) ?_
          refine lv_aload_n hx hb d_R_carve_219 rfl (lv_at hl 0 rfl) ?_
          refine va_get (D := (dC, dI)) (ci := 5) (v := .ref (a 7)) (C := R_R) (T := T_R) (N := 18) hx hb htb in_R hown hK hP 0 rfl rfl 10 (by decide) (htb _ wd_459) (fun _ h9 => h9) rfl d_R_carve_220 ?_
          refine lv_iload hx hb d_R_carve_223 (lv_at hl 2 rfl) ?_
          refine ec_ialdN (f := w1) (i := t4) hx hb hK hP 7 0 rfl rfl (by omega) (by decide) d_R_carve_225 ?_
          refine lv_aload_n hx hb d_R_carve_226 rfl (lv_at hl 0 rfl) ?_
          refine va_get (D := (dC, dI)) (ci := 5) (v := .ref (a 8)) (C := R_R) (T := T_R) (N := 18) hx hb htb in_R hown hK hP 0 rfl rfl 11 (by decide) (htb _ wd_460) (fun _ h9 => h9) rfl d_R_carve_227 ?_
          refine lv_iload hx hb d_R_carve_230 (lv_at hl 2 rfl) ?_
          refine ec_ialdN (f := w2) (i := t4) hx hb hK hP 8 0 rfl rfl (by omega) (by decide) d_R_carve_232 ?_
          refine ec_vSi (C := "ExactMeshModel") (ci := 5) (q := (R_R, T_R, 18)) (q0 := 0) (As := [.int (nI (w1 t4)), .int (nI (w2 t4))]) (rest := [.int (nI t4), .ref (a 10)]) ⟨hx, hb, hml, hown, htb⟩ (c_R_next l dC dI a cI cZ cJ rn rx ry rl rf rt rh gx gy rc w1 w2 w3 g4 rk kc kf kp rest (w1 t4) (w2 t4) g12 grl gll gw grc guq (by omega) (by omega)) kv_R_next hK hP rfl rfl rfl wd_622 ⟨Nat.le_of_ble_eq_true rfl, Nat.le_of_ble_eq_true rfl⟩ ⟨rfl, rfl⟩ rfl hl.1 rfl (Nat.le_of_ble_eq_true rfl) d_R_carve_233 ⟨Nat.zero_le _, Nat.zero_le _⟩ (fun r233 hr233 => ?_)
          replace hr233 : ec_isB r233 (ec_nxR rc w1 w2 w3 (ec_E rl rf rt) g4 (w1 t4) (w2 t4)) := hr233
          refine ec_if_neB (tgt := 281) hx hb hr233 d_R_carve_236 rfl (fun h236 => ?_) (fun h236 => ?_)
          · refine lv_iconst (v := nI 1) hx hb d_R_carve_281 (by decide) ?_
            refine lv_goto (tgt := 286) hx hb d_R_carve_282 rfl ?_
            refine ec_zastZ (f := g4) (i := t4) (x := True) hx hb hK hP hD hS 10 1 rfl rfl (ec_bp_t trivial).symm (by omega) (by decide) d_R_carve_286 (fun H locs hP hD hS => ?_)
            replace hP : va_P (dC, dI) vwCl (wR a cI cZ cJ rn rx ry rl rf rt rh gx gy rc w1 w2 w3 (va_up g4 t4 True) rk kc kf kp ++ rest) H := hP
            replace hD : va_D A (wR a cI cZ cJ rn rx ry rl rf rt rh gx gy rc w1 w2 w3 (va_up g4 t4 True) rk kc kf kp ++ rest) := hD
            refine ec_iinc (k := 2) hx hb d_R_carve_287 hl rfl (by decide) rfl (fun ls hl => ?_)
            replace hl : lv_has ls 5 [(4, .int (nI (t4 + 1))), (0, .ref (a 0)), (3, .int (nI ro))] := hl
            refine lv_goto (tgt := 193) hx hb d_R_carve_290 rfl ?_
            exact ih193 _ (by omega) (t4 := t4 + 1) (g4 := va_up g4 t4 True) (ls := ls) (H := H) (locs := locs) (hS := hS) (hl := lv_sub hl [1, 2, 0] rfl) (hP := hP) (hD := hD) (hle4 := (by omega)) (hQ2 := (ec_RP_t ec_bsR_he ec_bsR_mono hQ2 h199 (Or.inr (Or.inl h236)))) (hk193 := rfl)
          · refine lv_aload_n hx hb d_R_carve_239 rfl (lv_at hl 0 rfl) ?_
            refine lv_aload_n hx hb d_R_carve_240 rfl (lv_at hl 0 rfl) ?_
            refine va_get (D := (dC, dI)) (ci := 5) (v := .ref (a 8)) (C := R_R) (T := T_R) (N := 18) hx hb htb in_R hown hK hP 0 rfl rfl 11 (by decide) (htb _ wd_460) (fun _ h9 => h9) rfl d_R_carve_241 ?_
            refine lv_iload hx hb d_R_carve_244 (lv_at hl 2 rfl) ?_
            refine ec_ialdN (f := w2) (i := t4) hx hb hK hP 8 0 rfl rfl (by omega) (by decide) d_R_carve_246 ?_
            refine lv_aload_n hx hb d_R_carve_247 rfl (lv_at hl 0 rfl) ?_
            refine va_get (D := (dC, dI)) (ci := 5) (v := .ref (a 9)) (C := R_R) (T := T_R) (N := 18) hx hb htb in_R hown hK hP 0 rfl rfl 12 (by decide) (htb _ wd_461) (fun _ h9 => h9) rfl d_R_carve_248 ?_
            refine lv_iload hx hb d_R_carve_251 (lv_at hl 2 rfl) ?_
            refine ec_ialdN (f := w3) (i := t4) hx hb hK hP 9 0 rfl rfl (by omega) (by decide) d_R_carve_253 ?_
            refine ec_vSi (C := "ExactMeshModel") (ci := 5) (q := (R_R, T_R, 18)) (q0 := 0) (As := [.int (nI (w2 t4)), .int (nI (w3 t4))]) (rest := [.int (nI t4), .ref (a 10)]) ⟨hx, hb, hml, hown, htb⟩ (c_R_next l dC dI a cI cZ cJ rn rx ry rl rf rt rh gx gy rc w1 w2 w3 g4 rk kc kf kp rest (w2 t4) (w3 t4) g12 grl gll gw grc guq (by omega) (by omega)) kv_R_next hK hP rfl rfl rfl wd_622 ⟨Nat.le_of_ble_eq_true rfl, Nat.le_of_ble_eq_true rfl⟩ ⟨rfl, rfl⟩ rfl hl.1 rfl (Nat.le_of_ble_eq_true rfl) d_R_carve_254 ⟨Nat.zero_le _, Nat.zero_le _⟩ (fun r254 hr254 => ?_)
            replace hr254 : ec_isB r254 (ec_nxR rc w1 w2 w3 (ec_E rl rf rt) g4 (w2 t4) (w3 t4)) := hr254
            refine ec_if_neB (tgt := 281) hx hb hr254 d_R_carve_257 rfl (fun h257 => ?_) (fun h257 => ?_)
            · refine lv_iconst (v := nI 1) hx hb d_R_carve_281 (by decide) ?_
              refine lv_goto (tgt := 286) hx hb d_R_carve_282 rfl ?_
              refine ec_zastZ (f := g4) (i := t4) (x := True) hx hb hK hP hD hS 10 1 rfl rfl (ec_bp_t trivial).symm (by omega) (by decide) d_R_carve_286 (fun H locs hP hD hS => ?_)
              replace hP : va_P (dC, dI) vwCl (wR a cI cZ cJ rn rx ry rl rf rt rh gx gy rc w1 w2 w3 (va_up g4 t4 True) rk kc kf kp ++ rest) H := hP
              replace hD : va_D A (wR a cI cZ cJ rn rx ry rl rf rt rh gx gy rc w1 w2 w3 (va_up g4 t4 True) rk kc kf kp ++ rest) := hD
              refine ec_iinc (k := 2) hx hb d_R_carve_287 hl rfl (by decide) rfl (fun ls hl => ?_)
              replace hl : lv_has ls 5 [(4, .int (nI (t4 + 1))), (0, .ref (a 0)), (3, .int (nI ro))] := hl
              refine lv_goto (tgt := 193) hx hb d_R_carve_290 rfl ?_
              exact ih193 _ (by omega) (t4 := t4 + 1) (g4 := va_up g4 t4 True) (ls := ls) (H := H) (locs := locs) (hS := hS) (hl := lv_sub hl [1, 2, 0] rfl) (hP := hP) (hD := hD) (hle4 := (by omega)) (hQ2 := (ec_RP_t ec_bsR_he ec_bsR_mono hQ2 h199 (Or.inr (Or.inr (Or.inl h257))))) (hk193 := rfl)
            · refine lv_aload_n hx hb d_R_carve_260 rfl (lv_at hl 0 rfl) ?_
              refine lv_aload_n hx hb d_R_carve_261 rfl (lv_at hl 0 rfl) ?_
              refine va_get (D := (dC, dI)) (ci := 5) (v := .ref (a 9)) (C := R_R) (T := T_R) (N := 18) hx hb htb in_R hown hK hP 0 rfl rfl 12 (by decide) (htb _ wd_461) (fun _ h9 => h9) rfl d_R_carve_262 ?_
              refine lv_iload hx hb d_R_carve_265 (lv_at hl 2 rfl) ?_
              refine ec_ialdN (f := w3) (i := t4) hx hb hK hP 9 0 rfl rfl (by omega) (by decide) d_R_carve_267 ?_
              refine lv_aload_n hx hb d_R_carve_268 rfl (lv_at hl 0 rfl) ?_
              refine va_get (D := (dC, dI)) (ci := 5) (v := .ref (a 7)) (C := R_R) (T := T_R) (N := 18) hx hb htb in_R hown hK hP 0 rfl rfl 10 (by decide) (htb _ wd_459) (fun _ h9 => h9) rfl d_R_carve_269 ?_
              refine lv_iload hx hb d_R_carve_272 (lv_at hl 2 rfl) ?_
              refine ec_ialdN (f := w1) (i := t4) hx hb hK hP 7 0 rfl rfl (by omega) (by decide) d_R_carve_274 ?_
              refine ec_vSi (C := "ExactMeshModel") (ci := 5) (q := (R_R, T_R, 18)) (q0 := 0) (As := [.int (nI (w3 t4)), .int (nI (w1 t4))]) (rest := [.int (nI t4), .ref (a 10)]) ⟨hx, hb, hml, hown, htb⟩ (c_R_next l dC dI a cI cZ cJ rn rx ry rl rf rt rh gx gy rc w1 w2 w3 g4 rk kc kf kp rest (w3 t4) (w1 t4) g12 grl gll gw grc guq (by omega) (by omega)) kv_R_next hK hP rfl rfl rfl wd_622 ⟨Nat.le_of_ble_eq_true rfl, Nat.le_of_ble_eq_true rfl⟩ ⟨rfl, rfl⟩ rfl hl.1 rfl (Nat.le_of_ble_eq_true rfl) d_R_carve_275 ⟨Nat.zero_le _, Nat.zero_le _⟩ (fun r275 hr275 => ?_)
              replace hr275 : ec_isB r275 (ec_nxR rc w1 w2 w3 (ec_E rl rf rt) g4 (w3 t4) (w1 t4)) := hr275
              refine ec_if_eqB (tgt := 285) hx hb hr275 d_R_carve_278 rfl (fun h278 => ?_) (fun h278 => ?_)
              · refine lv_iconst (v := nI 0) hx hb d_R_carve_285 (by decide) ?_
                refine ec_zastZ (f := g4) (i := t4) (x := False) hx hb hK hP hD hS 10 1 rfl rfl (ec_bp_f (fun h => h)).symm (by omega) (by decide) d_R_carve_286 (fun H locs hP hD hS => ?_)
                replace hP : va_P (dC, dI) vwCl (wR a cI cZ cJ rn rx ry rl rf rt rh gx gy rc w1 w2 w3 (va_up g4 t4 False) rk kc kf kp ++ rest) H := hP
                replace hD : va_D A (wR a cI cZ cJ rn rx ry rl rf rt rh gx gy rc w1 w2 w3 (va_up g4 t4 False) rk kc kf kp ++ rest) := hD
                refine ec_iinc (k := 2) hx hb d_R_carve_287 hl rfl (by decide) rfl (fun ls hl => ?_)
                replace hl : lv_has ls 5 [(4, .int (nI (t4 + 1))), (0, .ref (a 0)), (3, .int (nI ro))] := hl
                refine lv_goto (tgt := 193) hx hb d_R_carve_290 rfl ?_
                exact ih193 _ (by omega) (t4 := t4 + 1) (g4 := va_up g4 t4 False) (ls := ls) (H := H) (locs := locs) (hS := hS) (hl := lv_sub hl [1, 2, 0] rfl) (hP := hP) (hD := hD) (hle4 := (by omega)) (hQ2 := (ec_RP_f ec_bsR_he hQ2 h199 h215 (fun q => by rcases q with q | q | q; exact h236 q; exact h257 q; exact h278 q))) (hk193 := rfl)
              · refine lv_iconst (v := nI 1) hx hb d_R_carve_281 (by decide) ?_
                refine lv_goto (tgt := 286) hx hb d_R_carve_282 rfl ?_
                refine ec_zastZ (f := g4) (i := t4) (x := True) hx hb hK hP hD hS 10 1 rfl rfl (ec_bp_t trivial).symm (by omega) (by decide) d_R_carve_286 (fun H locs hP hD hS => ?_)
                replace hP : va_P (dC, dI) vwCl (wR a cI cZ cJ rn rx ry rl rf rt rh gx gy rc w1 w2 w3 (va_up g4 t4 True) rk kc kf kp ++ rest) H := hP
                replace hD : va_D A (wR a cI cZ cJ rn rx ry rl rf rt rh gx gy rc w1 w2 w3 (va_up g4 t4 True) rk kc kf kp ++ rest) := hD
                refine ec_iinc (k := 2) hx hb d_R_carve_287 hl rfl (by decide) rfl (fun ls hl => ?_)
                replace hl : lv_has ls 5 [(4, .int (nI (t4 + 1))), (0, .ref (a 0)), (3, .int (nI ro))] := hl
                refine lv_goto (tgt := 193) hx hb d_R_carve_290 rfl ?_
                exact ih193 _ (by omega) (t4 := t4 + 1) (g4 := va_up g4 t4 True) (ls := ls) (H := H) (locs := locs) (hS := hS) (hl := lv_sub hl [1, 2, 0] rfl) (hP := hP) (hD := hD) (hle4 := (by omega)) (hQ2 := (ec_RP_t ec_bsR_he ec_bsR_mono hQ2 h199 (Or.inr (Or.inr (Or.inr h278))))) (hk193 := rfl)
  · refine lv_iconst (v := nI 0) hx hb d_R_carve_10 (by decide) ?_
    refine lv_istore hx hb d_R_carve_11 hl (by decide) rfl (fun ls hl => ?_)
    replace hl : lv_has ls 5 [(4, .int (nI 0)), (0, .ref (a 0)), (1, .int bh), (2, .int bo), (3, .int (nI t))] := hl
    obtain ⟨h, e_h⟩ : ∃ z : Nat, z = 0 := ⟨_, rfl⟩
    obtain ⟨g2, e_g2⟩ : ∃ z : Nat → Prop, z = g1 := ⟨_, rfl⟩
    replace hl : lv_has ls 5 [(0, .ref (a 0)), (1, .int bh), (2, .int bo), (3, .int (nI t)), (4, .int (nI h))] := by (try simp only [e_h, e_g2]); exact lv_sub hl [1, 2, 3, 4, 0] rfl
    replace hP : va_P (dC, dI) vwCl (wR a cI cZ cJ rn rx ry rl rf rt rh gx gy rc w1 w2 w3 g2 rk kc kf kp ++ rest) H := by (try simp only [e_h, e_g2]); exact hP
    replace hD : va_D A (wR a cI cZ cJ rn rx ry rl rf rt rh gx gy rc w1 w2 w3 g2 rk kc kf kp ++ rest) := ec_Dk hD rfl
    have hle2 : h ≤ rh := by omega
    have hJ2 : ec_C2 rc (fun u => (ec_Sd T0 (ec_E rl rf rt) rx ry rh gx gy P_bh P_bo) (w1 u) (w2 u) (w3 u)) P_bh (fun u x => ec_in3 rx ry (w1 u) (w2 u) (w3 u) (gx x) (gy x)) g2 t h := by simp only [e_h, e_g2]; exact ec_C2_0 hJ
    clear e_g2 e_h
    generalize hk13 : rh - h = k13
    induction k13 using Nat.strongRecOn generalizing h g2 ls H locs with
    | ind k13 ih13 =>
    refine lv_iload hx hb d_R_carve_13 (lv_at hl 4 rfl) ?_
    refine lv_aload_n hx hb d_R_carve_15 rfl (lv_at hl 0 rfl) ?_
    refine va_get (D := (dC, dI)) (ci := 5) (v := .int (nI rh)) (C := R_R) (T := T_R) (N := 18) hx hb htb in_R hown hK hP 0 rfl rfl 6 (by decide) (htb _ wd_455) (fun _ h9 => h9) rfl d_R_carve_16 ?_
    refine ec_icmp_ge (tgt := 93) hx hb d_R_carve_19 rfl (by omega) (by omega) (fun h19 => ?_) (fun h19 => ?_)
    · have hat := ec_C2_at hJ2 h7 hle2 (Or.inl h19)
      have qw := gw t (by omega)
      refine lv_aload_n hx hb d_R_carve_93 rfl (lv_at hl 0 rfl) ?_
      refine va_get (D := (dC, dI)) (ci := 5) (v := .ref (a 10)) (C := R_R) (T := T_R) (N := 18) hx hb htb in_R hown hK hP 0 rfl rfl 13 (by decide) (htb _ wd_462) (fun _ h9 => h9) rfl d_R_carve_94 ?_
      refine lv_iload_n hx hb d_R_carve_97 rfl (lv_at hl 3 rfl) ?_
      refine lv_aload_n hx hb d_R_carve_98 rfl (lv_at hl 0 rfl) ?_
      refine va_get (D := (dC, dI)) (ci := 5) (v := .ref (a 10)) (C := R_R) (T := T_R) (N := 18) hx hb htb in_R hown hK hP 0 rfl rfl 13 (by decide) (htb _ wd_462) (fun _ h9 => h9) rfl d_R_carve_99 ?_
      refine lv_iload_n hx hb d_R_carve_102 rfl (lv_at hl 3 rfl) ?_
      refine ec_zaldZ (f := g2) (i := t) hx hb hK hP 10 1 rfl rfl (by omega) (by decide) d_R_carve_103 ?_
      refine ec_if_neB (tgt := 168) hx hb (ec_bp_is _) d_R_carve_104 rfl (fun h104 => ?_) (fun h104 => ?_)
      · refine lv_iconst (v := nI 1) hx hb d_R_carve_168 (by decide) ?_
        refine lv_goto (tgt := 173) hx hb d_R_carve_169 rfl ?_
        refine ec_zastZ (f := g2) (i := t) (x := True) hx hb hK hP hD hS 10 1 rfl rfl (ec_bp_t trivial).symm (by omega) (by decide) d_R_carve_173 (fun H locs hP hD hS => ?_)
        replace hP : va_P (dC, dI) vwCl (wR a cI cZ cJ rn rx ry rl rf rt rh gx gy rc w1 w2 w3 (va_up g2 t True) rk kc kf kp ++ rest) H := hP
        replace hD : va_D A (wR a cI cZ cJ rn rx ry rl rf rt rh gx gy rc w1 w2 w3 (va_up g2 t True) rk kc kf kp ++ rest) := hD
        refine ec_iinc (k := 3) hx hb d_R_carve_174 hl rfl (by decide) rfl (fun ls hl => ?_)
        replace hl : lv_has ls 5 [(3, .int (nI (t + 1))), (0, .ref (a 0)), (1, .int bh), (2, .int bo), (4, .int (nI h))] := hl
        refine lv_goto (tgt := 2) hx hb d_R_carve_177 rfl ?_
        exact ih2 _ (by omega) (t := t + 1) (g1 := va_up g2 t True) (ls := ls) (H := H) (locs := locs) (hS := hS) (hl := lv_sub hl [1, 2, 3, 0] rfl) (hP := hP) (hD := hD) (hle := (by omega)) (hJ := (ec_C1_y hJ2 (Or.inl (hat.mp h104)))) (hk2 := rfl)
      · refine lv_iload_n hx hb d_R_carve_107 rfl (lv_at hl 2 rfl) ?_
        refine ec_if_eqB (tgt := 172) hx hb h_bo d_R_carve_108 rfl (fun h108 => ?_) (fun h108 => ?_)
        · refine lv_iconst (v := nI 0) hx hb d_R_carve_172 (by decide) ?_
          refine ec_zastZ (f := g2) (i := t) (x := False) hx hb hK hP hD hS 10 1 rfl rfl (ec_bp_f (fun h => h)).symm (by omega) (by decide) d_R_carve_173 (fun H locs hP hD hS => ?_)
          replace hP : va_P (dC, dI) vwCl (wR a cI cZ cJ rn rx ry rl rf rt rh gx gy rc w1 w2 w3 (va_up g2 t False) rk kc kf kp ++ rest) H := hP
          replace hD : va_D A (wR a cI cZ cJ rn rx ry rl rf rt rh gx gy rc w1 w2 w3 (va_up g2 t False) rk kc kf kp ++ rest) := hD
          refine ec_iinc (k := 3) hx hb d_R_carve_174 hl rfl (by decide) rfl (fun ls hl => ?_)
          replace hl : lv_has ls 5 [(3, .int (nI (t + 1))), (0, .ref (a 0)), (1, .int bh), (2, .int bo), (4, .int (nI h))] := hl
          refine lv_goto (tgt := 2) hx hb d_R_carve_177 rfl ?_
          exact ih2 _ (by omega) (t := t + 1) (g1 := va_up g2 t False) (ls := ls) (H := H) (locs := locs) (hS := hS) (hl := lv_sub hl [1, 2, 3, 0] rfl) (hP := hP) (hD := hD) (hle := (by omega)) (hJ := (ec_C1_n hJ2 (fun q => by rcases q with q | q; exact h104 (hat.mpr q); exact h108 q.1))) (hk2 := rfl)
        · refine lv_aload_n hx hb d_R_carve_111 rfl (lv_at hl 0 rfl) ?_
          refine lv_aload_n hx hb d_R_carve_112 rfl (lv_at hl 0 rfl) ?_
          refine va_get (D := (dC, dI)) (ci := 5) (v := .ref (a 7)) (C := R_R) (T := T_R) (N := 18) hx hb htb in_R hown hK hP 0 rfl rfl 10 (by decide) (htb _ wd_459) (fun _ h9 => h9) rfl d_R_carve_113 ?_
          refine lv_iload_n hx hb d_R_carve_116 rfl (lv_at hl 3 rfl) ?_
          refine ec_ialdN (f := w1) (i := t) hx hb hK hP 7 0 rfl rfl (by omega) (by decide) d_R_carve_117 ?_
          refine lv_aload_n hx hb d_R_carve_118 rfl (lv_at hl 0 rfl) ?_
          refine va_get (D := (dC, dI)) (ci := 5) (v := .ref (a 8)) (C := R_R) (T := T_R) (N := 18) hx hb htb in_R hown hK hP 0 rfl rfl 11 (by decide) (htb _ wd_460) (fun _ h9 => h9) rfl d_R_carve_119 ?_
          refine lv_iload_n hx hb d_R_carve_122 rfl (lv_at hl 3 rfl) ?_
          refine ec_ialdN (f := w2) (i := t) hx hb hK hP 8 0 rfl rfl (by omega) (by decide) d_R_carve_123 ?_
          refine ec_vSi (C := "ExactMeshModel") (ci := 5) (q := (R_R, T_R, 18)) (q0 := 0) (As := [.int (nI (w1 t)), .int (nI (w2 t))]) (rest := [.int (nI t), .ref (a 10)]) ⟨hx, hb, hml, hown, htb⟩ (c_R_open l dC dI a cI cZ cJ rn rx ry rl rf rt rh gx gy rc w1 w2 w3 g2 rk kc kf kp rest (w1 t) (w2 t) g12 grl gll gw grc (by omega) (by omega)) kv_R_open hK hP rfl rfl rfl wd_614 ⟨Nat.le_of_ble_eq_true rfl, Nat.le_of_ble_eq_true rfl⟩ ⟨rfl, rfl⟩ rfl hl.1 rfl (Nat.le_of_ble_eq_true rfl) d_R_carve_124 ⟨Nat.zero_le _, Nat.zero_le _⟩ (fun r124 hr124 => ?_)
          replace hr124 : ec_isB r124 (ec_opR rc w1 w2 w3 (ec_E rl rf rt) (w1 t) (w2 t)) := hr124
          refine ec_if_neB (tgt := 168) hx hb hr124 d_R_carve_127 rfl (fun h127 => ?_) (fun h127 => ?_)
          · refine lv_iconst (v := nI 1) hx hb d_R_carve_168 (by decide) ?_
            refine lv_goto (tgt := 173) hx hb d_R_carve_169 rfl ?_
            refine ec_zastZ (f := g2) (i := t) (x := True) hx hb hK hP hD hS 10 1 rfl rfl (ec_bp_t trivial).symm (by omega) (by decide) d_R_carve_173 (fun H locs hP hD hS => ?_)
            replace hP : va_P (dC, dI) vwCl (wR a cI cZ cJ rn rx ry rl rf rt rh gx gy rc w1 w2 w3 (va_up g2 t True) rk kc kf kp ++ rest) H := hP
            replace hD : va_D A (wR a cI cZ cJ rn rx ry rl rf rt rh gx gy rc w1 w2 w3 (va_up g2 t True) rk kc kf kp ++ rest) := hD
            refine ec_iinc (k := 3) hx hb d_R_carve_174 hl rfl (by decide) rfl (fun ls hl => ?_)
            replace hl : lv_has ls 5 [(3, .int (nI (t + 1))), (0, .ref (a 0)), (1, .int bh), (2, .int bo), (4, .int (nI h))] := hl
            refine lv_goto (tgt := 2) hx hb d_R_carve_177 rfl ?_
            exact ih2 _ (by omega) (t := t + 1) (g1 := va_up g2 t True) (ls := ls) (H := H) (locs := locs) (hS := hS) (hl := lv_sub hl [1, 2, 3, 0] rfl) (hP := hP) (hD := hD) (hle := (by omega)) (hJ := (ec_C1_y hJ2 (Or.inr ⟨h108, Or.inl ((ec_op_iff gF gA).mp h127)⟩))) (hk2 := rfl)
          · refine lv_aload_n hx hb d_R_carve_130 rfl (lv_at hl 0 rfl) ?_
            refine lv_aload_n hx hb d_R_carve_131 rfl (lv_at hl 0 rfl) ?_
            refine va_get (D := (dC, dI)) (ci := 5) (v := .ref (a 8)) (C := R_R) (T := T_R) (N := 18) hx hb htb in_R hown hK hP 0 rfl rfl 11 (by decide) (htb _ wd_460) (fun _ h9 => h9) rfl d_R_carve_132 ?_
            refine lv_iload_n hx hb d_R_carve_135 rfl (lv_at hl 3 rfl) ?_
            refine ec_ialdN (f := w2) (i := t) hx hb hK hP 8 0 rfl rfl (by omega) (by decide) d_R_carve_136 ?_
            refine lv_aload_n hx hb d_R_carve_137 rfl (lv_at hl 0 rfl) ?_
            refine va_get (D := (dC, dI)) (ci := 5) (v := .ref (a 9)) (C := R_R) (T := T_R) (N := 18) hx hb htb in_R hown hK hP 0 rfl rfl 12 (by decide) (htb _ wd_461) (fun _ h9 => h9) rfl d_R_carve_138 ?_
            refine lv_iload_n hx hb d_R_carve_141 rfl (lv_at hl 3 rfl) ?_
            refine ec_ialdN (f := w3) (i := t) hx hb hK hP 9 0 rfl rfl (by omega) (by decide) d_R_carve_142 ?_
            refine ec_vSi (C := "ExactMeshModel") (ci := 5) (q := (R_R, T_R, 18)) (q0 := 0) (As := [.int (nI (w2 t)), .int (nI (w3 t))]) (rest := [.int (nI t), .ref (a 10)]) ⟨hx, hb, hml, hown, htb⟩ (c_R_open l dC dI a cI cZ cJ rn rx ry rl rf rt rh gx gy rc w1 w2 w3 g2 rk kc kf kp rest (w2 t) (w3 t) g12 grl gll gw grc (by omega) (by omega)) kv_R_open hK hP rfl rfl rfl wd_614 ⟨Nat.le_of_ble_eq_true rfl, Nat.le_of_ble_eq_true rfl⟩ ⟨rfl, rfl⟩ rfl hl.1 rfl (Nat.le_of_ble_eq_true rfl) d_R_carve_143 ⟨Nat.zero_le _, Nat.zero_le _⟩ (fun r143 hr143 => ?_)
            replace hr143 : ec_isB r143 (ec_opR rc w1 w2 w3 (ec_E rl rf rt) (w2 t) (w3 t)) := hr143
            refine ec_if_neB (tgt := 168) hx hb hr143 d_R_carve_146 rfl (fun h146 => ?_) (fun h146 => ?_)
            · refine lv_iconst (v := nI 1) hx hb d_R_carve_168 (by decide) ?_
              refine lv_goto (tgt := 173) hx hb d_R_carve_169 rfl ?_
              refine ec_zastZ (f := g2) (i := t) (x := True) hx hb hK hP hD hS 10 1 rfl rfl (ec_bp_t trivial).symm (by omega) (by decide) d_R_carve_173 (fun H locs hP hD hS => ?_)
              replace hP : va_P (dC, dI) vwCl (wR a cI cZ cJ rn rx ry rl rf rt rh gx gy rc w1 w2 w3 (va_up g2 t True) rk kc kf kp ++ rest) H := hP
              replace hD : va_D A (wR a cI cZ cJ rn rx ry rl rf rt rh gx gy rc w1 w2 w3 (va_up g2 t True) rk kc kf kp ++ rest) := hD
              refine ec_iinc (k := 3) hx hb d_R_carve_174 hl rfl (by decide) rfl (fun ls hl => ?_)
              replace hl : lv_has ls 5 [(3, .int (nI (t + 1))), (0, .ref (a 0)), (1, .int bh), (2, .int bo), (4, .int (nI h))] := hl
              refine lv_goto (tgt := 2) hx hb d_R_carve_177 rfl ?_
              exact ih2 _ (by omega) (t := t + 1) (g1 := va_up g2 t True) (ls := ls) (H := H) (locs := locs) (hS := hS) (hl := lv_sub hl [1, 2, 3, 0] rfl) (hP := hP) (hD := hD) (hle := (by omega)) (hJ := (ec_C1_y hJ2 (Or.inr ⟨h108, Or.inr (Or.inl ((ec_op_iff gF gA).mp h146))⟩))) (hk2 := rfl)
            · refine lv_aload_n hx hb d_R_carve_149 rfl (lv_at hl 0 rfl) ?_
              refine lv_aload_n hx hb d_R_carve_150 rfl (lv_at hl 0 rfl) ?_
              refine va_get (D := (dC, dI)) (ci := 5) (v := .ref (a 9)) (C := R_R) (T := T_R) (N := 18) hx hb htb in_R hown hK hP 0 rfl rfl 12 (by decide) (htb _ wd_461) (fun _ h9 => h9) rfl d_R_carve_151 ?_
              refine lv_iload_n hx hb d_R_carve_154 rfl (lv_at hl 3 rfl) ?_
              refine ec_ialdN (f := w3) (i := t) hx hb hK hP 9 0 rfl rfl (by omega) (by decide) d_R_carve_155 ?_
              refine lv_aload_n hx hb d_R_carve_156 rfl (lv_at hl 0 rfl) ?_
              refine va_get (D := (dC, dI)) (ci := 5) (v := .ref (a 7)) (C := R_R) (T := T_R) (N := 18) hx hb htb in_R hown hK hP 0 rfl rfl 10 (by decide) (htb _ wd_459) (fun _ h9 => h9) rfl d_R_carve_157 ?_
              refine lv_iload_n hx hb d_R_carve_160 rfl (lv_at hl 3 rfl) ?_
              refine ec_ialdN (f := w1) (i := t) hx hb hK hP 7 0 rfl rfl (by omega) (by decide) d_R_carve_161 ?_
              refine ec_vSi (C := "ExactMeshModel") (ci := 5) (q := (R_R, T_R, 18)) (q0 := 0) (As := [.int (nI (w3 t)), .int (nI (w1 t))]) (rest := [.int (nI t), .ref (a 10)]) ⟨hx, hb, hml, hown, htb⟩ (c_R_open l dC dI a cI cZ cJ rn rx ry rl rf rt rh gx gy rc w1 w2 w3 g2 rk kc kf kp rest (w3 t) (w1 t) g12 grl gll gw grc (by omega) (by omega)) kv_R_open hK hP rfl rfl rfl wd_614 ⟨Nat.le_of_ble_eq_true rfl, Nat.le_of_ble_eq_true rfl⟩ ⟨rfl, rfl⟩ rfl hl.1 rfl (Nat.le_of_ble_eq_true rfl) d_R_carve_162 ⟨Nat.zero_le _, Nat.zero_le _⟩ (fun r162 hr162 => ?_)
              replace hr162 : ec_isB r162 (ec_opR rc w1 w2 w3 (ec_E rl rf rt) (w3 t) (w1 t)) := hr162
              refine ec_if_eqB (tgt := 172) hx hb hr162 d_R_carve_165 rfl (fun h165 => ?_) (fun h165 => ?_)
              · refine lv_iconst (v := nI 0) hx hb d_R_carve_172 (by decide) ?_
                refine ec_zastZ (f := g2) (i := t) (x := False) hx hb hK hP hD hS 10 1 rfl rfl (ec_bp_f (fun h => h)).symm (by omega) (by decide) d_R_carve_173 (fun H locs hP hD hS => ?_)
                replace hP : va_P (dC, dI) vwCl (wR a cI cZ cJ rn rx ry rl rf rt rh gx gy rc w1 w2 w3 (va_up g2 t False) rk kc kf kp ++ rest) H := hP
                replace hD : va_D A (wR a cI cZ cJ rn rx ry rl rf rt rh gx gy rc w1 w2 w3 (va_up g2 t False) rk kc kf kp ++ rest) := hD
                refine ec_iinc (k := 3) hx hb d_R_carve_174 hl rfl (by decide) rfl (fun ls hl => ?_)
                replace hl : lv_has ls 5 [(3, .int (nI (t + 1))), (0, .ref (a 0)), (1, .int bh), (2, .int bo), (4, .int (nI h))] := hl
                refine lv_goto (tgt := 2) hx hb d_R_carve_177 rfl ?_
                exact ih2 _ (by omega) (t := t + 1) (g1 := va_up g2 t False) (ls := ls) (H := H) (locs := locs) (hS := hS) (hl := lv_sub hl [1, 2, 3, 0] rfl) (hP := hP) (hD := hD) (hle := (by omega)) (hJ := (ec_C1_n hJ2 (fun q => by rcases q with q | q; exact h104 (hat.mpr q); rcases q.2 with q | q | q; exact h127 ((ec_op_iff gF gA).mpr q); exact h146 ((ec_op_iff gF gA).mpr q); exact h165 ((ec_op_iff gF gA).mpr q)))) (hk2 := rfl)
              · refine lv_iconst (v := nI 1) hx hb d_R_carve_168 (by decide) ?_
                refine lv_goto (tgt := 173) hx hb d_R_carve_169 rfl ?_
                refine ec_zastZ (f := g2) (i := t) (x := True) hx hb hK hP hD hS 10 1 rfl rfl (ec_bp_t trivial).symm (by omega) (by decide) d_R_carve_173 (fun H locs hP hD hS => ?_)
                replace hP : va_P (dC, dI) vwCl (wR a cI cZ cJ rn rx ry rl rf rt rh gx gy rc w1 w2 w3 (va_up g2 t True) rk kc kf kp ++ rest) H := hP
                replace hD : va_D A (wR a cI cZ cJ rn rx ry rl rf rt rh gx gy rc w1 w2 w3 (va_up g2 t True) rk kc kf kp ++ rest) := hD
                refine ec_iinc (k := 3) hx hb d_R_carve_174 hl rfl (by decide) rfl (fun ls hl => ?_)
                replace hl : lv_has ls 5 [(3, .int (nI (t + 1))), (0, .ref (a 0)), (1, .int bh), (2, .int bo), (4, .int (nI h))] := hl
                refine lv_goto (tgt := 2) hx hb d_R_carve_177 rfl ?_
                exact ih2 _ (by omega) (t := t + 1) (g1 := va_up g2 t True) (ls := ls) (H := H) (locs := locs) (hS := hS) (hl := lv_sub hl [1, 2, 3, 0] rfl) (hP := hP) (hD := hD) (hle := (by omega)) (hJ := (ec_C1_y hJ2 (Or.inr ⟨h108, Or.inr (Or.inr ((ec_op_iff gF gA).mp h165))⟩))) (hk2 := rfl)
    · refine lv_iload_n hx hb d_R_carve_22 rfl (lv_at hl 1 rfl) ?_
      refine ec_if_eqB (tgt := 93) hx hb h_bh d_R_carve_23 rfl (fun h23 => ?_) (fun h23 => ?_)
      · have hat := ec_C2_at hJ2 h7 hle2 (Or.inr h23)
        have qw := gw t (by omega)
        refine lv_aload_n hx hb d_R_carve_93 rfl (lv_at hl 0 rfl) ?_
        refine va_get (D := (dC, dI)) (ci := 5) (v := .ref (a 10)) (C := R_R) (T := T_R) (N := 18) hx hb htb in_R hown hK hP 0 rfl rfl 13 (by decide) (htb _ wd_462) (fun _ h9 => h9) rfl d_R_carve_94 ?_
        refine lv_iload_n hx hb d_R_carve_97 rfl (lv_at hl 3 rfl) ?_
        refine lv_aload_n hx hb d_R_carve_98 rfl (lv_at hl 0 rfl) ?_
        refine va_get (D := (dC, dI)) (ci := 5) (v := .ref (a 10)) (C := R_R) (T := T_R) (N := 18) hx hb htb in_R hown hK hP 0 rfl rfl 13 (by decide) (htb _ wd_462) (fun _ h9 => h9) rfl d_R_carve_99 ?_
        refine lv_iload_n hx hb d_R_carve_102 rfl (lv_at hl 3 rfl) ?_
        refine ec_zaldZ (f := g2) (i := t) hx hb hK hP 10 1 rfl rfl (by omega) (by decide) d_R_carve_103 ?_
        refine ec_if_neB (tgt := 168) hx hb (ec_bp_is _) d_R_carve_104 rfl (fun h104_1 => ?_) (fun h104_1 => ?_)
        · refine lv_iconst (v := nI 1) hx hb d_R_carve_168 (by decide) ?_
          refine lv_goto (tgt := 173) hx hb d_R_carve_169 rfl ?_
          refine ec_zastZ (f := g2) (i := t) (x := True) hx hb hK hP hD hS 10 1 rfl rfl (ec_bp_t trivial).symm (by omega) (by decide) d_R_carve_173 (fun H locs hP hD hS => ?_)
          replace hP : va_P (dC, dI) vwCl (wR a cI cZ cJ rn rx ry rl rf rt rh gx gy rc w1 w2 w3 (va_up g2 t True) rk kc kf kp ++ rest) H := hP
          replace hD : va_D A (wR a cI cZ cJ rn rx ry rl rf rt rh gx gy rc w1 w2 w3 (va_up g2 t True) rk kc kf kp ++ rest) := hD
          refine ec_iinc (k := 3) hx hb d_R_carve_174 hl rfl (by decide) rfl (fun ls hl => ?_)
          replace hl : lv_has ls 5 [(3, .int (nI (t + 1))), (0, .ref (a 0)), (1, .int bh), (2, .int bo), (4, .int (nI h))] := hl
          refine lv_goto (tgt := 2) hx hb d_R_carve_177 rfl ?_
          exact ih2 _ (by omega) (t := t + 1) (g1 := va_up g2 t True) (ls := ls) (H := H) (locs := locs) (hS := hS) (hl := lv_sub hl [1, 2, 3, 0] rfl) (hP := hP) (hD := hD) (hle := (by omega)) (hJ := (ec_C1_y hJ2 (Or.inl (hat.mp h104_1)))) (hk2 := rfl)
        · refine lv_iload_n hx hb d_R_carve_107 rfl (lv_at hl 2 rfl) ?_
          refine ec_if_eqB (tgt := 172) hx hb h_bo d_R_carve_108 rfl (fun h108_1 => ?_) (fun h108_1 => ?_)
          · refine lv_iconst (v := nI 0) hx hb d_R_carve_172 (by decide) ?_
            refine ec_zastZ (f := g2) (i := t) (x := False) hx hb hK hP hD hS 10 1 rfl rfl (ec_bp_f (fun h => h)).symm (by omega) (by decide) d_R_carve_173 (fun H locs hP hD hS => ?_)
            replace hP : va_P (dC, dI) vwCl (wR a cI cZ cJ rn rx ry rl rf rt rh gx gy rc w1 w2 w3 (va_up g2 t False) rk kc kf kp ++ rest) H := hP
            replace hD : va_D A (wR a cI cZ cJ rn rx ry rl rf rt rh gx gy rc w1 w2 w3 (va_up g2 t False) rk kc kf kp ++ rest) := hD
            refine ec_iinc (k := 3) hx hb d_R_carve_174 hl rfl (by decide) rfl (fun ls hl => ?_)
            replace hl : lv_has ls 5 [(3, .int (nI (t + 1))), (0, .ref (a 0)), (1, .int bh), (2, .int bo), (4, .int (nI h))] := hl
            refine lv_goto (tgt := 2) hx hb d_R_carve_177 rfl ?_
            exact ih2 _ (by omega) (t := t + 1) (g1 := va_up g2 t False) (ls := ls) (H := H) (locs := locs) (hS := hS) (hl := lv_sub hl [1, 2, 3, 0] rfl) (hP := hP) (hD := hD) (hle := (by omega)) (hJ := (ec_C1_n hJ2 (fun q => by rcases q with q | q; exact h104_1 (hat.mpr q); exact h108_1 q.1))) (hk2 := rfl)
          · refine lv_aload_n hx hb d_R_carve_111 rfl (lv_at hl 0 rfl) ?_
            refine lv_aload_n hx hb d_R_carve_112 rfl (lv_at hl 0 rfl) ?_
            refine va_get (D := (dC, dI)) (ci := 5) (v := .ref (a 7)) (C := R_R) (T := T_R) (N := 18) hx hb htb in_R hown hK hP 0 rfl rfl 10 (by decide) (htb _ wd_459) (fun _ h9 => h9) rfl d_R_carve_113 ?_
            refine lv_iload_n hx hb d_R_carve_116 rfl (lv_at hl 3 rfl) ?_
            refine ec_ialdN (f := w1) (i := t) hx hb hK hP 7 0 rfl rfl (by omega) (by decide) d_R_carve_117 ?_
            refine lv_aload_n hx hb d_R_carve_118 rfl (lv_at hl 0 rfl) ?_
            refine va_get (D := (dC, dI)) (ci := 5) (v := .ref (a 8)) (C := R_R) (T := T_R) (N := 18) hx hb htb in_R hown hK hP 0 rfl rfl 11 (by decide) (htb _ wd_460) (fun _ h9 => h9) rfl d_R_carve_119 ?_
            refine lv_iload_n hx hb d_R_carve_122 rfl (lv_at hl 3 rfl) ?_
            refine ec_ialdN (f := w2) (i := t) hx hb hK hP 8 0 rfl rfl (by omega) (by decide) d_R_carve_123 ?_
            refine ec_vSi (C := "ExactMeshModel") (ci := 5) (q := (R_R, T_R, 18)) (q0 := 0) (As := [.int (nI (w1 t)), .int (nI (w2 t))]) (rest := [.int (nI t), .ref (a 10)]) ⟨hx, hb, hml, hown, htb⟩ (c_R_open l dC dI a cI cZ cJ rn rx ry rl rf rt rh gx gy rc w1 w2 w3 g2 rk kc kf kp rest (w1 t) (w2 t) g12 grl gll gw grc (by omega) (by omega)) kv_R_open hK hP rfl rfl rfl wd_614 ⟨Nat.le_of_ble_eq_true rfl, Nat.le_of_ble_eq_true rfl⟩ ⟨rfl, rfl⟩ rfl hl.1 rfl (Nat.le_of_ble_eq_true rfl) d_R_carve_124 ⟨Nat.zero_le _, Nat.zero_le _⟩ (fun r124_1 hr124_1 => ?_)
            replace hr124_1 : ec_isB r124_1 (ec_opR rc w1 w2 w3 (ec_E rl rf rt) (w1 t) (w2 t)) := hr124_1
            refine ec_if_neB (tgt := 168) hx hb hr124_1 d_R_carve_127 rfl (fun h127_1 => ?_) (fun h127_1 => ?_)
            · refine lv_iconst (v := nI 1) hx hb d_R_carve_168 (by decide) ?_
              refine lv_goto (tgt := 173) hx hb d_R_carve_169 rfl ?_
              refine ec_zastZ (f := g2) (i := t) (x := True) hx hb hK hP hD hS 10 1 rfl rfl (ec_bp_t trivial).symm (by omega) (by decide) d_R_carve_173 (fun H locs hP hD hS => ?_)
              replace hP : va_P (dC, dI) vwCl (wR a cI cZ cJ rn rx ry rl rf rt rh gx gy rc w1 w2 w3 (va_up g2 t True) rk kc kf kp ++ rest) H := hP
              replace hD : va_D A (wR a cI cZ cJ rn rx ry rl rf rt rh gx gy rc w1 w2 w3 (va_up g2 t True) rk kc kf kp ++ rest) := hD
              refine ec_iinc (k := 3) hx hb d_R_carve_174 hl rfl (by decide) rfl (fun ls hl => ?_)
              replace hl : lv_has ls 5 [(3, .int (nI (t + 1))), (0, .ref (a 0)), (1, .int bh), (2, .int bo), (4, .int (nI h))] := hl
              refine lv_goto (tgt := 2) hx hb d_R_carve_177 rfl ?_
              exact ih2 _ (by omega) (t := t + 1) (g1 := va_up g2 t True) (ls := ls) (H := H) (locs := locs) (hS := hS) (hl := lv_sub hl [1, 2, 3, 0] rfl) (hP := hP) (hD := hD) (hle := (by omega)) (hJ := (ec_C1_y hJ2 (Or.inr ⟨h108_1, Or.inl ((ec_op_iff gF gA).mp h127_1)⟩))) (hk2 := rfl)
            · refine lv_aload_n hx hb d_R_carve_130 rfl (lv_at hl 0 rfl) ?_
              refine lv_aload_n hx hb d_R_carve_131 rfl (lv_at hl 0 rfl) ?_
              refine va_get (D := (dC, dI)) (ci := 5) (v := .ref (a 8)) (C := R_R) (T := T_R) (N := 18) hx hb htb in_R hown hK hP 0 rfl rfl 11 (by decide) (htb _ wd_460) (fun _ h9 => h9) rfl d_R_carve_132 ?_
              refine lv_iload_n hx hb d_R_carve_135 rfl (lv_at hl 3 rfl) ?_
              refine ec_ialdN (f := w2) (i := t) hx hb hK hP 8 0 rfl rfl (by omega) (by decide) d_R_carve_136 ?_
              refine lv_aload_n hx hb d_R_carve_137 rfl (lv_at hl 0 rfl) ?_
              refine va_get (D := (dC, dI)) (ci := 5) (v := .ref (a 9)) (C := R_R) (T := T_R) (N := 18) hx hb htb in_R hown hK hP 0 rfl rfl 12 (by decide) (htb _ wd_461) (fun _ h9 => h9) rfl d_R_carve_138 ?_
              refine lv_iload_n hx hb d_R_carve_141 rfl (lv_at hl 3 rfl) ?_
              refine ec_ialdN (f := w3) (i := t) hx hb hK hP 9 0 rfl rfl (by omega) (by decide) d_R_carve_142 ?_
              refine ec_vSi (C := "ExactMeshModel") (ci := 5) (q := (R_R, T_R, 18)) (q0 := 0) (As := [.int (nI (w2 t)), .int (nI (w3 t))]) (rest := [.int (nI t), .ref (a 10)]) ⟨hx, hb, hml, hown, htb⟩ (c_R_open l dC dI a cI cZ cJ rn rx ry rl rf rt rh gx gy rc w1 w2 w3 g2 rk kc kf kp rest (w2 t) (w3 t) g12 grl gll gw grc (by omega) (by omega)) kv_R_open hK hP rfl rfl rfl wd_614 ⟨Nat.le_of_ble_eq_true rfl, Nat.le_of_ble_eq_true rfl⟩ ⟨rfl, rfl⟩ rfl hl.1 rfl (Nat.le_of_ble_eq_true rfl) d_R_carve_143 ⟨Nat.zero_le _, Nat.zero_le _⟩ (fun r143_1 hr143_1 => ?_)
              replace hr143_1 : ec_isB r143_1 (ec_opR rc w1 w2 w3 (ec_E rl rf rt) (w2 t) (w3 t)) := hr143_1
              refine ec_if_neB (tgt := 168) hx hb hr143_1 d_R_carve_146 rfl (fun h146_1 => ?_) (fun h146_1 => ?_)
              · refine lv_iconst (v := nI 1) hx hb d_R_carve_168 (by decide) ?_
                refine lv_goto (tgt := 173) hx hb d_R_carve_169 rfl ?_
                refine ec_zastZ (f := g2) (i := t) (x := True) hx hb hK hP hD hS 10 1 rfl rfl (ec_bp_t trivial).symm (by omega) (by decide) d_R_carve_173 (fun H locs hP hD hS => ?_)
                replace hP : va_P (dC, dI) vwCl (wR a cI cZ cJ rn rx ry rl rf rt rh gx gy rc w1 w2 w3 (va_up g2 t True) rk kc kf kp ++ rest) H := hP
                replace hD : va_D A (wR a cI cZ cJ rn rx ry rl rf rt rh gx gy rc w1 w2 w3 (va_up g2 t True) rk kc kf kp ++ rest) := hD
                refine ec_iinc (k := 3) hx hb d_R_carve_174 hl rfl (by decide) rfl (fun ls hl => ?_)
                replace hl : lv_has ls 5 [(3, .int (nI (t + 1))), (0, .ref (a 0)), (1, .int bh), (2, .int bo), (4, .int (nI h))] := hl
                refine lv_goto (tgt := 2) hx hb d_R_carve_177 rfl ?_
                exact ih2 _ (by omega) (t := t + 1) (g1 := va_up g2 t True) (ls := ls) (H := H) (locs := locs) (hS := hS) (hl := lv_sub hl [1, 2, 3, 0] rfl) (hP := hP) (hD := hD) (hle := (by omega)) (hJ := (ec_C1_y hJ2 (Or.inr ⟨h108_1, Or.inr (Or.inl ((ec_op_iff gF gA).mp h146_1))⟩))) (hk2 := rfl)
              · refine lv_aload_n hx hb d_R_carve_149 rfl (lv_at hl 0 rfl) ?_
                refine lv_aload_n hx hb d_R_carve_150 rfl (lv_at hl 0 rfl) ?_
                refine va_get (D := (dC, dI)) (ci := 5) (v := .ref (a 9)) (C := R_R) (T := T_R) (N := 18) hx hb htb in_R hown hK hP 0 rfl rfl 12 (by decide) (htb _ wd_461) (fun _ h9 => h9) rfl d_R_carve_151 ?_
                refine lv_iload_n hx hb d_R_carve_154 rfl (lv_at hl 3 rfl) ?_
                refine ec_ialdN (f := w3) (i := t) hx hb hK hP 9 0 rfl rfl (by omega) (by decide) d_R_carve_155 ?_
                refine lv_aload_n hx hb d_R_carve_156 rfl (lv_at hl 0 rfl) ?_
                refine va_get (D := (dC, dI)) (ci := 5) (v := .ref (a 7)) (C := R_R) (T := T_R) (N := 18) hx hb htb in_R hown hK hP 0 rfl rfl 10 (by decide) (htb _ wd_459) (fun _ h9 => h9) rfl d_R_carve_157 ?_
                refine lv_iload_n hx hb d_R_carve_160 rfl (lv_at hl 3 rfl) ?_
                refine ec_ialdN (f := w1) (i := t) hx hb hK hP 7 0 rfl rfl (by omega) (by decide) d_R_carve_161 ?_
                refine ec_vSi (C := "ExactMeshModel") (ci := 5) (q := (R_R, T_R, 18)) (q0 := 0) (As := [.int (nI (w3 t)), .int (nI (w1 t))]) (rest := [.int (nI t), .ref (a 10)]) ⟨hx, hb, hml, hown, htb⟩ (c_R_open l dC dI a cI cZ cJ rn rx ry rl rf rt rh gx gy rc w1 w2 w3 g2 rk kc kf kp rest (w3 t) (w1 t) g12 grl gll gw grc (by omega) (by omega)) kv_R_open hK hP rfl rfl rfl wd_614 ⟨Nat.le_of_ble_eq_true rfl, Nat.le_of_ble_eq_true rfl⟩ ⟨rfl, rfl⟩ rfl hl.1 rfl (Nat.le_of_ble_eq_true rfl) d_R_carve_162 ⟨Nat.zero_le _, Nat.zero_le _⟩ (fun r162_1 hr162_1 => ?_)
                replace hr162_1 : ec_isB r162_1 (ec_opR rc w1 w2 w3 (ec_E rl rf rt) (w3 t) (w1 t)) := hr162_1
                refine ec_if_eqB (tgt := 172) hx hb hr162_1 d_R_carve_165 rfl (fun h165_1 => ?_) (fun h165_1 => ?_)
                · refine lv_iconst (v := nI 0) hx hb d_R_carve_172 (by decide) ?_
                  refine ec_zastZ (f := g2) (i := t) (x := False) hx hb hK hP hD hS 10 1 rfl rfl (ec_bp_f (fun h => h)).symm (by omega) (by decide) d_R_carve_173 (fun H locs hP hD hS => ?_)
                  replace hP : va_P (dC, dI) vwCl (wR a cI cZ cJ rn rx ry rl rf rt rh gx gy rc w1 w2 w3 (va_up g2 t False) rk kc kf kp ++ rest) H := hP
                  replace hD : va_D A (wR a cI cZ cJ rn rx ry rl rf rt rh gx gy rc w1 w2 w3 (va_up g2 t False) rk kc kf kp ++ rest) := hD
                  refine ec_iinc (k := 3) hx hb d_R_carve_174 hl rfl (by decide) rfl (fun ls hl => ?_)
                  replace hl : lv_has ls 5 [(3, .int (nI (t + 1))), (0, .ref (a 0)), (1, .int bh), (2, .int bo), (4, .int (nI h))] := hl
                  refine lv_goto (tgt := 2) hx hb d_R_carve_177 rfl ?_
                  exact ih2 _ (by omega) (t := t + 1) (g1 := va_up g2 t False) (ls := ls) (H := H) (locs := locs) (hS := hS) (hl := lv_sub hl [1, 2, 3, 0] rfl) (hP := hP) (hD := hD) (hle := (by omega)) (hJ := (ec_C1_n hJ2 (fun q => by rcases q with q | q; exact h104_1 (hat.mpr q); rcases q.2 with q | q | q; exact h127_1 ((ec_op_iff gF gA).mpr q); exact h146_1 ((ec_op_iff gF gA).mpr q); exact h165_1 ((ec_op_iff gF gA).mpr q)))) (hk2 := rfl)
                · refine lv_iconst (v := nI 1) hx hb d_R_carve_168 (by decide) ?_
                  refine lv_goto (tgt := 173) hx hb d_R_carve_169 rfl ?_
                  refine ec_zastZ (f := g2) (i := t) (x := True) hx hb hK hP hD hS 10 1 rfl rfl (ec_bp_t trivial).symm (by omega) (by decide) d_R_carve_173 (fun H locs hP hD hS => ?_)
                  replace hP : va_P (dC, dI) vwCl (wR a cI cZ cJ rn rx ry rl rf rt rh gx gy rc w1 w2 w3 (va_up g2 t True) rk kc kf kp ++ rest) H := hP
                  replace hD : va_D A (wR a cI cZ cJ rn rx ry rl rf rt rh gx gy rc w1 w2 w3 (va_up g2 t True) rk kc kf kp ++ rest) := hD
                  refine ec_iinc (k := 3) hx hb d_R_carve_174 hl rfl (by decide) rfl (fun ls hl => ?_)
                  replace hl : lv_has ls 5 [(3, .int (nI (t + 1))), (0, .ref (a 0)), (1, .int bh), (2, .int bo), (4, .int (nI h))] := hl
                  refine lv_goto (tgt := 2) hx hb d_R_carve_177 rfl ?_
                  exact ih2 _ (by omega) (t := t + 1) (g1 := va_up g2 t True) (ls := ls) (H := H) (locs := locs) (hS := hS) (hl := lv_sub hl [1, 2, 3, 0] rfl) (hP := hP) (hD := hD) (hle := (by omega)) (hJ := (ec_C1_y hJ2 (Or.inr ⟨h108_1, Or.inr (Or.inr ((ec_op_iff gF gA).mp h165_1))⟩))) (hk2 := rfl)
      · have qw := gw t (by omega)
        refine lv_aload_n hx hb d_R_carve_26 rfl (lv_at hl 0 rfl) ?_
        refine va_get (D := (dC, dI)) (ci := 5) (v := .ref (a 10)) (C := R_R) (T := T_R) (N := 18) hx hb htb in_R hown hK hP 0 rfl rfl 13 (by decide) (htb _ wd_462) (fun _ h9 => h9) rfl d_R_carve_27 ?_
        refine lv_iload_n hx hb d_R_carve_30 rfl (lv_at hl 3 rfl) ?_
        refine lv_aload_n hx hb d_R_carve_31 rfl (lv_at hl 0 rfl) ?_
        refine va_get (D := (dC, dI)) (ci := 5) (v := .ref (a 10)) (C := R_R) (T := T_R) (N := 18) hx hb htb in_R hown hK hP 0 rfl rfl 13 (by decide) (htb _ wd_462) (fun _ h9 => h9) rfl d_R_carve_32 ?_
        refine lv_iload_n hx hb d_R_carve_35 rfl (lv_at hl 3 rfl) ?_
        refine ec_zaldZ (f := g2) (i := t) hx hb hK hP 10 1 rfl rfl (by omega) (by decide) d_R_carve_36 ?_
        refine ec_if_neB (tgt := 81) hx hb (ec_bp_is _) d_R_carve_37 rfl (fun h37 => ?_) (fun h37 => ?_)
        · refine lv_iconst (v := nI 1) hx hb d_R_carve_81 (by decide) ?_
          refine lv_goto (tgt := 86) hx hb d_R_carve_82 rfl ?_
          refine ec_zastZ (f := g2) (i := t) (x := True) hx hb hK hP hD hS 10 1 rfl rfl (ec_bp_t trivial).symm (by omega) (by decide) d_R_carve_86 (fun H locs hP hD hS => ?_)
          replace hP : va_P (dC, dI) vwCl (wR a cI cZ cJ rn rx ry rl rf rt rh gx gy rc w1 w2 w3 (va_up g2 t True) rk kc kf kp ++ rest) H := hP
          replace hD : va_D A (wR a cI cZ cJ rn rx ry rl rf rt rh gx gy rc w1 w2 w3 (va_up g2 t True) rk kc kf kp ++ rest) := hD
          refine ec_iinc (k := 4) hx hb d_R_carve_87 hl rfl (by decide) rfl (fun ls hl => ?_)
          replace hl : lv_has ls 5 [(4, .int (nI (h + 1))), (0, .ref (a 0)), (1, .int bh), (2, .int bo), (3, .int (nI t))] := hl
          refine lv_goto (tgt := 13) hx hb d_R_carve_90 rfl ?_
          exact ih13 _ (by omega) (h := h + 1) (g2 := va_up g2 t True) (ls := ls) (H := H) (locs := locs) (hS := hS) (hl := lv_sub hl [1, 2, 3, 4, 0] rfl) (hP := hP) (hD := hD) (hle2 := (by omega)) (hJ2 := (ec_C2_y hJ2 h7 h23 (Or.inl h37))) (hk13 := rfl)
        · refine lv_aload_n hx hb d_R_carve_40 rfl (lv_at hl 0 rfl) ?_
          refine lv_aload_n hx hb d_R_carve_41 rfl (lv_at hl 0 rfl) ?_
          refine va_get (D := (dC, dI)) (ci := 5) (v := .ref (a 7)) (C := R_R) (T := T_R) (N := 18) hx hb htb in_R hown hK hP 0 rfl rfl 10 (by decide) (htb _ wd_459) (fun _ h9 => h9) rfl d_R_carve_42 ?_
          refine lv_iload_n hx hb d_R_carve_45 rfl (lv_at hl 3 rfl) ?_
          refine ec_ialdN (f := w1) (i := t) hx hb hK hP 7 0 rfl rfl (by omega) (by decide) d_R_carve_46 ?_
          refine lv_aload_n hx hb d_R_carve_47 rfl (lv_at hl 0 rfl) ?_
          refine va_get (D := (dC, dI)) (ci := 5) (v := .ref (a 8)) (C := R_R) (T := T_R) (N := 18) hx hb htb in_R hown hK hP 0 rfl rfl 11 (by decide) (htb _ wd_460) (fun _ h9 => h9) rfl d_R_carve_48 ?_
          refine lv_iload_n hx hb d_R_carve_51 rfl (lv_at hl 3 rfl) ?_
          refine ec_ialdN (f := w2) (i := t) hx hb hK hP 8 0 rfl rfl (by omega) (by decide) d_R_carve_52 ?_
          refine lv_aload_n hx hb d_R_carve_53 rfl (lv_at hl 0 rfl) ?_
          refine va_get (D := (dC, dI)) (ci := 5) (v := .ref (a 9)) (C := R_R) (T := T_R) (N := 18) hx hb htb in_R hown hK hP 0 rfl rfl 12 (by decide) (htb _ wd_461) (fun _ h9 => h9) rfl d_R_carve_54 ?_
          refine lv_iload_n hx hb d_R_carve_57 rfl (lv_at hl 3 rfl) ?_
          refine ec_ialdN (f := w3) (i := t) hx hb hK hP 9 0 rfl rfl (by omega) (by decide) d_R_carve_58 ?_
          refine lv_aload_n hx hb d_R_carve_59 rfl (lv_at hl 0 rfl) ?_
          refine va_get (D := (dC, dI)) (ci := 5) (v := .ref (a 5)) (C := R_R) (T := T_R) (N := 18) hx hb htb in_R hown hK hP 0 rfl rfl 7 (by decide) (htb _ wd_456) (fun _ h9 => h9) rfl d_R_carve_60 ?_
          refine lv_iload hx hb d_R_carve_63 (lv_at hl 4 rfl) ?_
          refine ec_iald (f := gx) (i := h) hx hb hK hP 5 0 rfl rfl (by omega) (by decide) d_R_carve_65 ?_
          refine lv_i2l hx hb d_R_carve_66 rfl ?_
          refine lv_aload_n hx hb d_R_carve_67 rfl (lv_at hl 0 rfl) ?_
          refine va_get (D := (dC, dI)) (ci := 5) (v := .ref (a 6)) (C := R_R) (T := T_R) (N := 18) hx hb htb in_R hown hK hP 0 rfl rfl 8 (by decide) (htb _ wd_457) (fun _ h9 => h9) rfl d_R_carve_68 ?_
          refine lv_iload hx hb d_R_carve_71 (lv_at hl 4 rfl) ?_
          refine ec_iald (f := gy) (i := h) hx hb hK hP 6 0 rfl rfl (by omega) (by decide) d_R_carve_73 ?_
          refine lv_i2l hx hb d_R_carve_74 rfl ?_
          refine ec_vSi (C := "ExactMeshModel") (ci := 5) (q := (R_R, T_R, 18)) (q0 := 0) (As := [.int (nI (w1 t)), .int (nI (w2 t)), .int (nI (w3 t)), .long ((gx h).toInt64), .long ((gy h).toInt64)]) (rest := [.int (nI t), .ref (a 10)]) ⟨hx, hb, hml, hown, htb⟩ (c_R_inside l dC dI a cI cZ cJ rn rx ry rl rf rt rh gx gy rc w1 w2 w3 g2 rk kc kf kp rest (w1 t) (w2 t) (w3 t) (gx h) (gy h) g12 gN (by omega) (by omega) (by omega)) kv_R_inside hK hP rfl rfl rfl wd_610 ⟨Nat.le_of_ble_eq_true rfl, Nat.le_of_ble_eq_true rfl⟩ ⟨rfl, rfl⟩ rfl hl.1 rfl (Nat.le_of_ble_eq_true rfl) d_R_carve_75 ⟨Nat.zero_le _, Nat.zero_le _⟩ (fun r75 hr75 => ?_)
          replace hr75 : ec_isB r75 (ec_in3 rx ry (w1 t) (w2 t) (w3 t) (gx h) (gy h)) := hr75
          refine ec_if_eqB (tgt := 85) hx hb hr75 d_R_carve_78 rfl (fun h78 => ?_) (fun h78 => ?_)
          · refine lv_iconst (v := nI 0) hx hb d_R_carve_85 (by decide) ?_
            refine ec_zastZ (f := g2) (i := t) (x := False) hx hb hK hP hD hS 10 1 rfl rfl (ec_bp_f (fun h => h)).symm (by omega) (by decide) d_R_carve_86 (fun H locs hP hD hS => ?_)
            replace hP : va_P (dC, dI) vwCl (wR a cI cZ cJ rn rx ry rl rf rt rh gx gy rc w1 w2 w3 (va_up g2 t False) rk kc kf kp ++ rest) H := hP
            replace hD : va_D A (wR a cI cZ cJ rn rx ry rl rf rt rh gx gy rc w1 w2 w3 (va_up g2 t False) rk kc kf kp ++ rest) := hD
            refine ec_iinc (k := 4) hx hb d_R_carve_87 hl rfl (by decide) rfl (fun ls hl => ?_)
            replace hl : lv_has ls 5 [(4, .int (nI (h + 1))), (0, .ref (a 0)), (1, .int bh), (2, .int bo), (3, .int (nI t))] := hl
            refine lv_goto (tgt := 13) hx hb d_R_carve_90 rfl ?_
            exact ih13 _ (by omega) (h := h + 1) (g2 := va_up g2 t False) (ls := ls) (H := H) (locs := locs) (hS := hS) (hl := lv_sub hl [1, 2, 3, 4, 0] rfl) (hP := hP) (hD := hD) (hle2 := (by omega)) (hJ2 := (ec_C2_n hJ2 h7 h37 h78)) (hk13 := rfl)
          · refine lv_iconst (v := nI 1) hx hb d_R_carve_81 (by decide) ?_
            refine lv_goto (tgt := 86) hx hb d_R_carve_82 rfl ?_
            refine ec_zastZ (f := g2) (i := t) (x := True) hx hb hK hP hD hS 10 1 rfl rfl (ec_bp_t trivial).symm (by omega) (by decide) d_R_carve_86 (fun H locs hP hD hS => ?_)
            replace hP : va_P (dC, dI) vwCl (wR a cI cZ cJ rn rx ry rl rf rt rh gx gy rc w1 w2 w3 (va_up g2 t True) rk kc kf kp ++ rest) H := hP
            replace hD : va_D A (wR a cI cZ cJ rn rx ry rl rf rt rh gx gy rc w1 w2 w3 (va_up g2 t True) rk kc kf kp ++ rest) := hD
            refine ec_iinc (k := 4) hx hb d_R_carve_87 hl rfl (by decide) rfl (fun ls hl => ?_)
            replace hl : lv_has ls 5 [(4, .int (nI (h + 1))), (0, .ref (a 0)), (1, .int bh), (2, .int bo), (3, .int (nI t))] := hl
            refine lv_goto (tgt := 13) hx hb d_R_carve_90 rfl ?_
            exact ih13 _ (by omega) (h := h + 1) (g2 := va_up g2 t True) (ls := ls) (H := H) (locs := locs) (hS := hS) (hl := lv_sub hl [1, 2, 3, 4, 0] rfl) (hP := hP) (hD := hD) (hle2 := (by omega)) (hJ2 := (ec_C2_y hJ2 h7 h23 (Or.inr h78))) (hk13 := rfl)

set_option maxRecDepth 100000 in
set_option maxHeartbeats 4000000 in
theorem c_R_build (l : Launch) (dC : Nat → ClassId) (dI : Nat → Nat → Nat) (a : Nat → Nat) (cI cZ cJ : ClassId) (rn : Nat) (rx : Nat → Int32) (ry : Nat → Int32) (rl : Nat) (rf : Nat → Nat) (rt : Nat → Nat) (rh : Nat) (gx : Nat → Int32) (gy : Nat → Int32) (rc : Nat) (w1 : Nat → Nat) (w2 : Nat → Nat) (w3 : Nat → Nat) (rg : Nat → Prop) (rk : Nat) (kc : Nat → Nat) (kf : Nat → Prop) (kp : Nat → Int64) (rest : va_W) (bh : Int32) (bo : Int32) (glr : Nat → Nat) (T0 : Nat → Nat → Nat → Prop) (P_bh : Prop) (P_bo : Prop) (gS : ec_SI rn rx ry rl rf rt glr) (g3 : rh ≤ 3) (gF : ec_Full rn rx ry rl rf rt T0) (h_bh : ec_isB bh P_bh) (h_bo : ec_isB bo P_bo) (A : Nat → Prop) (hD : va_D A (wR a cI cZ cJ rn rx ry rl rf rt rh gx gy rc w1 w2 w3 rg rk kc kf kp ++ rest)) : Met l y_R_build (Cond.code y_R_build b_R_build 7 (some .int) :: ec_tbl) ({ frames := 8, cells := 0, slots := 0, locals := 200 }) (va_Pc [.ref (a 0), .int bh, .int bo] (fun U => va_P (dC, dI) vwCl (wR a cI cZ cJ rn rx ry rl rf rt rh gx gy rc w1 w2 w3 rg rk kc kf kp ++ rest) U.heap ∧ va_K (dC, dI) vwCl (ec_tys cI cZ cJ) U)) (va_Qi (fun (r : Int32) (u : Nat × (Nat → Nat) × (Nat → Nat) × (Nat → Nat) × (Nat → Prop) × Nat × (Nat → Nat) × (Nat → Prop) × (Nat → Int64)) => r = nI u.2.2.2.2.2.1 ∧ ec_En (ec_Kept T0 (ec_E rl rf rt) (ec_Sd T0 (ec_E rl rf rt) rx ry rh gx gy P_bh P_bo)) u.2.2.2.2.2.1 u.2.2.2.2.2.2.1 144 ∧ ec_fx (ec_E rl rf rt) u.2.2.2.2.2.1 u.2.2.2.2.2.2.1 u.2.2.2.2.2.2.2.1 ∧ u.2.2.2.2.2.1 ≤ 19 ∧ ∀ i, i < 3 * u.2.2.2.2.2.1 → u.2.2.2.2.2.2.1 i < rn) (fun u t => va_P (dC, dI) vwCl (wR a cI cZ cJ rn rx ry rl rf rt rh gx gy u.1 u.2.1 u.2.2.1 u.2.2.2.1 u.2.2.2.2.1 u.2.2.2.2.2.1 u.2.2.2.2.2.2.1 u.2.2.2.2.2.2.2.1 u.2.2.2.2.2.2.2.2 ++ rest) t.heap) A) 0 0 A := by
  refine Met.ofW (cc := b_R_build) (maxL := 7) (ret := (some .int)) (by decide) rfl ?_
  intro p e s m args below meth c s₁ B hml hv0
  obtain ⟨rfl, hP, hK⟩ := hv0
  have hx := B.exec
  have hb := B.bytes
  have hr := B.returns
  have hts := atoms_spec (ws := (Cond.code y_R_build b_R_build 7 (some .int) :: ec_tbl)) B.pre
  have htb : ∀ w ∈ ec_tbl, w.before _ s = true := fun w h => hts w (List.mem_cons_of_mem _ h)
  clear hts
  have hown : s.vm.findClass "ExactMeshModel" = some m.cls := findClass_of_methodNamed B.named
  have hlocks := B.notSynchronized
  have hl := lv_entry ([.ref (a 0), .int bh, .int bo]) (n := 7) (Nat.le_of_ble_eq_true rfl)
  rw [lg_entry_eq]
  generalize (lg_sl ([.ref (a 0), .int bh, .int bo]) ++ List.replicate (7 - (lg_sl ([.ref (a 0), .int bh, .int bo])).length) Slot.unset).toArray = ls at hl ⊢
  replace hl : lv_has ls 7 [(0, .ref (a 0)), (1, .int bh), (2, .int bo)] := hl
  refine ec_start (fun H locs hH hlocs => ?_)
  replace hP : va_P (dC, dI) vwCl (wR a cI cZ cJ rn rx ry rl rf rt rh gx gy rc w1 w2 w3 rg rk kc kf kp ++ rest) H := by rw [hH]; exact hP
  have hS : va_S A s.heap H locs := by rw [hH, hlocs]; exact va_S.rf
  clear hH hlocs
  have g12 := gS.1
  have gN := gS.2.1
  have grl := gS.2.2.2.1
  have gll := gS.links
  refine lv_aload_n hx hb d_R_build_0 rfl (lv_at hl 0 rfl) ?_
  refine ec_vQv (C := "ExactMeshModel") (ci := 5) (q := (R_R, T_R, 18)) (q0 := 0) (As := []) (rest := []) ⟨hx, hb, hml, hown, htb⟩ (c_R_fill l dC dI a cI cZ cJ rn rx ry rl rf rt rh gx gy rc w1 w2 w3 rg rk kc kf kp rest glr T0 gS gF A hD) kv_R_fill hK hP rfl rfl rfl hS wd_578 ⟨Nat.le_of_ble_eq_true rfl, Nat.le_of_ble_eq_true rfl⟩ ⟨rfl, rfl⟩ rfl hl.1 rfl (Nat.le_of_ble_eq_true rfl) d_R_build_1 ⟨Nat.zero_le _, Nat.zero_le _⟩ (fun ur1 H locs hr1 hP hS => ?_)
  replace hr1 : ec_RA T0 ur1.1 ur1.2.1 ur1.2.2.1 ur1.2.2.2.1 ur1.2.2.2.2.1 := hr1
  replace hP : va_P (dC, dI) vwCl (wR a cI cZ cJ rn rx ry rl rf rt rh gx gy ur1.1 ur1.2.1 ur1.2.2.1 ur1.2.2.2.1 ur1.2.2.2.2.1 rk kc kf ur1.2.2.2.2.2 ++ rest) H := hP
  replace hD : va_D A (wR a cI cZ cJ rn rx ry rl rf rt rh gx gy ur1.1 ur1.2.1 ur1.2.2.1 ur1.2.2.2.1 ur1.2.2.2.2.1 rk kc kf ur1.2.2.2.2.2 ++ rest) := ec_Dk hD rfl
  have gw := ec_RD.lt gF hr1.1
  have grc : ur1.1 ≤ 24 := by have := hr1.1.2.2; omega
  refine lv_aload_n hx hb d_R_build_4 rfl (lv_at hl 0 rfl) ?_
  refine lv_iload_n hx hb d_R_build_5 rfl (lv_at hl 1 rfl) ?_
  refine lv_iload_n hx hb d_R_build_6 rfl (lv_at hl 2 rfl) ?_
  refine ec_vQv (C := "ExactMeshModel") (ci := 5) (q := (R_R, T_R, 18)) (q0 := 0) (As := [.int bh, .int bo]) (rest := []) ⟨hx, hb, hml, hown, htb⟩ (c_R_carve l dC dI a cI cZ cJ rn rx ry rl rf rt rh gx gy ur1.1 ur1.2.1 ur1.2.2.1 ur1.2.2.2.1 ur1.2.2.2.2.1 rk kc kf ur1.2.2.2.2.2 rest bh bo glr T0 P_bh P_bo gS g3 gF hr1 h_bh h_bo A hD) kv_R_carve hK hP rfl rfl rfl hS wd_606 ⟨Nat.le_of_ble_eq_true rfl, Nat.le_of_ble_eq_true rfl⟩ ⟨rfl, rfl⟩ rfl hl.1 rfl (Nat.le_of_ble_eq_true rfl) d_R_build_7 ⟨Nat.zero_le _, Nat.zero_le _⟩ (fun ur7 H locs hr7 hP hS => ?_)
  replace hr7 : ∀ t, t < ur1.1 → (ur7 t ↔ ec_Gone T0 (ec_E rl rf rt) (ec_Sd T0 (ec_E rl rf rt) rx ry rh gx gy P_bh P_bo) (ur1.2.1 t) (ur1.2.2.1 t) (ur1.2.2.2.1 t)) := hr7
  replace hP : va_P (dC, dI) vwCl (wR a cI cZ cJ rn rx ry rl rf rt rh gx gy ur1.1 ur1.2.1 ur1.2.2.1 ur1.2.2.2.1 ur7 rk kc kf ur1.2.2.2.2.2 ++ rest) H := hP
  replace hD : va_D A (wR a cI cZ cJ rn rx ry rl rf rt rh gx gy ur1.1 ur1.2.1 ur1.2.2.1 ur1.2.2.2.1 ur7 rk kc kf ur1.2.2.2.2.2 ++ rest) := ec_Dk hD rfl
  refine lv_aload_n hx hb d_R_build_10 rfl (lv_at hl 0 rfl) ?_
  refine lv_iconst (v := nI 0) hx hb d_R_build_11 (by decide) ?_
  refine va_put (D := (dC, dI)) (ci := 5) (v := .int (nI 0)) (ty := .int) (C := R_R) (T := T_R) (N := 18) hx hb htb in_R t_R ty_R nm_R hown hK hP hD hS 0 rfl rfl 14 (by decide) (htb _ wd_463) (fun _ h9 => h9) rfl (by decide +kernel) rfl rfl (Nat.le_of_ble_eq_true rfl) d_R_build_12 (fun H locs hP hD hS => ?_)
  replace hP : va_P (dC, dI) vwCl (wR a cI cZ cJ rn rx ry rl rf rt rh gx gy ur1.1 ur1.2.1 ur1.2.2.1 ur1.2.2.2.1 ur7 0 kc kf ur1.2.2.2.2.2 ++ rest) H := hP
  replace hD : va_D A (wR a cI cZ cJ rn rx ry rl rf rt rh gx gy ur1.1 ur1.2.1 ur1.2.2.1 ur1.2.2.2.1 ur7 0 kc kf ur1.2.2.2.2.2 ++ rest) := hD
  refine lv_iconst (v := nI 0) hx hb d_R_build_15 (by decide) ?_
  refine lv_istore_n hx hb d_R_build_16 rfl hl (by decide) rfl (fun ls hl => ?_)
  replace hl : lv_has ls 7 [(3, .int (nI 0)), (0, .ref (a 0)), (1, .int bh), (2, .int bo)] := hl
  obtain ⟨i, e_i⟩ : ∃ z : Nat, z = 0 := ⟨_, rfl⟩
  obtain ⟨m1, e_m1⟩ : ∃ z : Nat, z = 0 := ⟨_, rfl⟩
  obtain ⟨d1, e_d1⟩ : ∃ z : Nat → Nat, z = kc := ⟨_, rfl⟩
  obtain ⟨f1, e_f1⟩ : ∃ z : Nat → Prop, z = kf := ⟨_, rfl⟩
  replace hl : lv_has ls 7 [(0, .ref (a 0)), (3, .int (nI i))] := by (try simp only [e_i, e_m1, e_d1, e_f1]); exact lv_sub hl [1, 0] rfl
  replace hP : va_P (dC, dI) vwCl (wR a cI cZ cJ rn rx ry rl rf rt rh gx gy ur1.1 ur1.2.1 ur1.2.2.1 ur1.2.2.2.1 ur7 m1 d1 f1 ur1.2.2.2.2.2 ++ rest) H := by (try simp only [e_i, e_m1, e_d1, e_f1]); exact hP
  replace hD : va_D A (wR a cI cZ cJ rn rx ry rl rf rt rh gx gy ur1.1 ur1.2.1 ur1.2.2.1 ur1.2.2.2.1 ur7 m1 d1 f1 ur1.2.2.2.2.2 ++ rest) := ec_Dk hD rfl
  have hle : i ≤ rn := by omega
  have hJ : ec_BK (ec_Kept T0 (ec_E rl rf rt) (ec_Sd T0 (ec_E rl rf rt) rx ry rh gx gy P_bh P_bo)) (ec_E rl rf rt) m1 d1 f1 (i * 12) := by simp only [e_i, e_m1, e_d1, e_f1]; exact ec_BK_0
  clear e_f1 e_d1 e_m1 e_i
  generalize hk17 : rn - i = k17
  induction k17 using Nat.strongRecOn generalizing i m1 d1 f1 ls H locs with
  | ind k17 ih17 =>
  refine lv_iload_n hx hb d_R_build_17 rfl (lv_at hl 1 rfl) ?_
  refine lv_aload_n hx hb d_R_build_18 rfl (lv_at hl 0 rfl) ?_
  refine va_get (D := (dC, dI)) (ci := 5) (v := .int (nI rn)) (C := R_R) (T := T_R) (N := 18) hx hb htb in_R hown hK hP 0 rfl rfl 0 (by decide) (htb _ wd_449) (fun _ h9 => h9) rfl d_R_build_19 ?_
  refine ec_icmp_ge (tgt := 112) hx hb d_R_build_22 rfl (by omega) (by omega) (fun h22 => ?_) (fun h22 => ?_)
  · refine lv_aload_n hx hb d_R_build_112 rfl (lv_at hl 0 rfl) ?_
    refine va_get (D := (dC, dI)) (ci := 5) (v := .int (nI m1)) (C := R_R) (T := T_R) (N := 18) hx hb htb in_R hown hK hP 0 rfl rfl 14 (by decide) (htb _ wd_463) (fun _ h9 => h9) rfl d_R_build_113 ?_
    exact W.iret hx hb hr (fun tS ht hW => ⟨⟨_, (ur1.1, ur1.2.1, ur1.2.2.1, ur1.2.2.2.1, ur7, m1, d1, f1, ur1.2.2.2.2.2), rfl, ⟨rfl, ec_BK_end gS gF hJ (by omega) (by omega)⟩, by show va_P _ _ _ tS.heap; rw [ht]; exact hP⟩, hS.F ht⟩) hS.2.2 d_R_build_116
  · refine lv_iconst (v := nI 0) hx hb d_R_build_25 (by decide) ?_
    refine lv_istore hx hb d_R_build_26 hl (by decide) rfl (fun ls hl => ?_)
    replace hl : lv_has ls 7 [(4, .int (nI 0)), (0, .ref (a 0)), (3, .int (nI i))] := hl
    obtain ⟨j, e_j⟩ : ∃ z : Nat, z = 0 := ⟨_, rfl⟩
    obtain ⟨m2, e_m2⟩ : ∃ z : Nat, z = m1 := ⟨_, rfl⟩
    obtain ⟨d2, e_d2⟩ : ∃ z : Nat → Nat, z = d1 := ⟨_, rfl⟩
    obtain ⟨f2, e_f2⟩ : ∃ z : Nat → Prop, z = f1 := ⟨_, rfl⟩
    replace hl : lv_has ls 7 [(0, .ref (a 0)), (3, .int (nI i)), (4, .int (nI j))] := by (try simp only [e_j, e_m2, e_d2, e_f2]); exact lv_sub hl [1, 2, 0] rfl
    replace hP : va_P (dC, dI) vwCl (wR a cI cZ cJ rn rx ry rl rf rt rh gx gy ur1.1 ur1.2.1 ur1.2.2.1 ur1.2.2.2.1 ur7 m2 d2 f2 ur1.2.2.2.2.2 ++ rest) H := by (try simp only [e_j, e_m2, e_d2, e_f2]); exact hP
    replace hD : va_D A (wR a cI cZ cJ rn rx ry rl rf rt rh gx gy ur1.1 ur1.2.1 ur1.2.2.1 ur1.2.2.2.1 ur7 m2 d2 f2 ur1.2.2.2.2.2 ++ rest) := ec_Dk hD rfl
    have hle2 : j ≤ rn := by omega
    have hJ2 : ec_BK (ec_Kept T0 (ec_E rl rf rt) (ec_Sd T0 (ec_E rl rf rt) rx ry rh gx gy P_bh P_bo)) (ec_E rl rf rt) m2 d2 f2 (i * 12 + j) := by simp only [e_j, e_m2, e_d2, e_f2]; exact hJ
    clear e_f2 e_d2 e_m2 e_j
    generalize hk28 : rn - j = k28
    induction k28 using Nat.strongRecOn generalizing j m2 d2 f2 ls H locs with
    | ind k28 ih28 =>
    refine lv_iload hx hb d_R_build_28 (lv_at hl 2 rfl) ?_
    refine lv_aload_n hx hb d_R_build_30 rfl (lv_at hl 0 rfl) ?_
    refine va_get (D := (dC, dI)) (ci := 5) (v := .int (nI rn)) (C := R_R) (T := T_R) (N := 18) hx hb htb in_R hown hK hP 0 rfl rfl 0 (by decide) (htb _ wd_449) (fun _ h9 => h9) rfl d_R_build_31 ?_
    refine ec_icmp_ge (tgt := 106) hx hb d_R_build_34 rfl (by omega) (by omega) (fun h34 => ?_) (fun h34 => ?_)
    · refine ec_iinc (k := 1) hx hb d_R_build_106 hl rfl (by decide) rfl (fun ls hl => ?_)
      replace hl : lv_has ls 7 [(3, .int (nI (i + 1))), (0, .ref (a 0)), (4, .int (nI j))] := hl
      refine lv_goto (tgt := 17) hx hb d_R_build_109 rfl ?_
      exact ih17 _ (by omega) (i := i + 1) (m1 := m2) (d1 := d2) (f1 := f2) (ls := ls) (H := H) (locs := locs) (hS := hS) (hl := lv_sub hl [1, 0] rfl) (hP := hP) (hD := hD) (hle := (by omega)) (hJ := (ec_BK_row gF g12 hJ2 h34 (by omega))) (hk17 := rfl)
    · refine lv_aload_n hx hb d_R_build_37 rfl (lv_at hl 0 rfl) ?_
      refine lv_iload_n hx hb d_R_build_38 rfl (lv_at hl 1 rfl) ?_
      refine lv_iload hx hb d_R_build_39 (lv_at hl 2 rfl) ?_
      refine ec_vSi (C := "ExactMeshModel") (ci := 5) (q := (R_R, T_R, 18)) (q0 := 0) (As := [.int (nI i), .int (nI j)]) (rest := []) ⟨hx, hb, hml, hown, htb⟩ (c_R_leftOf l dC dI a cI cZ cJ rn rx ry rl rf rt rh gx gy ur1.1 ur1.2.1 ur1.2.2.1 ur1.2.2.2.1 ur7 m2 d2 f2 ur1.2.2.2.2.2 rest i j g12 gw grc (by omega) (by omega)) kv_R_leftOf hK hP rfl rfl rfl wd_618 ⟨Nat.le_of_ble_eq_true rfl, Nat.le_of_ble_eq_true rfl⟩ ⟨rfl, rfl⟩ rfl hl.1 rfl (Nat.le_of_ble_eq_true rfl) d_R_build_41 ⟨Nat.zero_le _, Nat.zero_le _⟩ (fun r41 hr41 => ?_)
      replace hr41 : ∃ o, r41 = ec_oi o ∧ ec_lfo ur1.1 ur1.2.1 ur1.2.2.1 ur1.2.2.2.1 i j o := hr41
      obtain ⟨or41, er41, hor41⟩ := hr41
      subst er41
      refine lv_istore hx hb d_R_build_44 hl (by decide) rfl (fun ls hl => ?_)
      replace hl : lv_has ls 7 [(5, .int (ec_oi or41)), (0, .ref (a 0)), (3, .int (nI i)), (4, .int (nI j))] := hl
      generalize hqvt : or41 = ovt at hl ⊢
      cases ovt with
      | none =>
        replace hl : lv_has ls 7 [(5, .int (-1)), (0, .ref (a 0)), (3, .int (nI i)), (4, .int (nI j))] := hl
        refine lv_iload hx hb d_R_build_46 (lv_at hl 0 rfl) ?_
        refine lv_if_lt (tgt := 100) hx hb d_R_build_48 rfl (fun h48 => ?_) (fun h48 => ?_)
        · refine ec_iinc (k := 3) hx hb d_R_build_100 hl rfl (by decide) rfl (fun ls hl => ?_)
          replace hl : lv_has ls 7 [(4, .int (nI (j + 1))), (5, .int (-1)), (0, .ref (a 0)), (3, .int (nI i))] := hl
          refine lv_goto (tgt := 28) hx hb d_R_build_103 rfl ?_
          exact ih28 _ (by omega) (j := j + 1) (m2 := m2) (d2 := d2) (f2 := f2) (ls := ls) (H := H) (locs := locs) (hS := hS) (hl := lv_sub hl [2, 3, 0] rfl) (hP := hP) (hD := hD) (hle2 := (by omega)) (hJ2 := (ec_BK_no gF g12 hJ2 h22 h34 (ec_lf_none hr1 (hor41.2 hqvt)))) (hk28 := rfl)
        · exact absurd (by decide) h48
      | some vt =>
        replace hl : lv_has ls 7 [(5, .int (nI vt)), (0, .ref (a 0)), (3, .int (nI i)), (4, .int (nI j))] := hl
        have hvt := hor41.1 vt hqvt
        have hvl := hvt.1
        refine lv_iload hx hb d_R_build_46 (lv_at hl 0 rfl) ?_
        refine ec_if_lt (tgt := 100) hx hb d_R_build_48 rfl (by omega) ?_
        refine lv_aload_n hx hb d_R_build_51 rfl (lv_at hl 1 rfl) ?_
        refine va_get (D := (dC, dI)) (ci := 5) (v := .ref (a 10)) (C := R_R) (T := T_R) (N := 18) hx hb htb in_R hown hK hP 0 rfl rfl 13 (by decide) (htb _ wd_462) (fun _ h9 => h9) rfl d_R_build_52 ?_
        refine lv_iload hx hb d_R_build_55 (lv_at hl 0 rfl) ?_
        refine ec_zaldZ (f := ur7) (i := vt) hx hb hK hP 10 1 rfl rfl (by omega) (by decide) d_R_build_57 ?_
        refine ec_if_neB (tgt := 100) hx hb (ec_bp_is _) d_R_build_58 rfl (fun h58 => ?_) (fun h58 => ?_)
        · refine ec_iinc (k := 3) hx hb d_R_build_100 hl rfl (by decide) rfl (fun ls hl => ?_)
          replace hl : lv_has ls 7 [(4, .int (nI (j + 1))), (5, .int (nI vt)), (0, .ref (a 0)), (3, .int (nI i))] := hl
          refine lv_goto (tgt := 28) hx hb d_R_build_103 rfl ?_
          exact ih28 _ (by omega) (j := j + 1) (m2 := m2) (d2 := d2) (f2 := f2) (ls := ls) (H := H) (locs := locs) (hS := hS) (hl := lv_sub hl [2, 3, 0] rfl) (hP := hP) (hD := hD) (hle2 := (by omega)) (hJ2 := (ec_BK_no gF g12 hJ2 h22 h34 (ec_lf_gone gF hr1 hr7 hvt.1 hvt.2 h58))) (hk28 := rfl)
        · obtain ⟨vz, hrz⟩ := ec_sd_rot3 hvt.2
          have hrq := hrz
          unfold ec_rot3 at hrq
          have qw := gw vt hvt.1
          have hzz : ur1.2.1 vt + ur1.2.2.1 vt + ur1.2.2.2.1 vt - i - j = vz := by omega
          refine lv_aload_n hx hb d_R_build_61 rfl (lv_at hl 1 rfl) ?_
          refine va_get (D := (dC, dI)) (ci := 5) (v := .ref (a 7)) (C := R_R) (T := T_R) (N := 18) hx hb htb in_R hown hK hP 0 rfl rfl 10 (by decide) (htb _ wd_459) (fun _ h9 => h9) rfl d_R_build_62 ?_
          refine lv_iload hx hb d_R_build_65 (lv_at hl 0 rfl) ?_
          refine ec_ialdN (f := ur1.2.1) (i := vt) hx hb hK hP 7 0 rfl rfl (by omega) (by decide) d_R_build_67 ?_
          refine lv_aload_n hx hb d_R_build_68 rfl (lv_at hl 1 rfl) ?_
          refine va_get (D := (dC, dI)) (ci := 5) (v := .ref (a 8)) (C := R_R) (T := T_R) (N := 18) hx hb htb in_R hown hK hP 0 rfl rfl 11 (by decide) (htb _ wd_460) (fun _ h9 => h9) rfl d_R_build_69 ?_
          refine lv_iload hx hb d_R_build_72 (lv_at hl 0 rfl) ?_
          refine ec_ialdN (f := ur1.2.2.1) (i := vt) hx hb hK hP 8 0 rfl rfl (by omega) (by decide) d_R_build_74 ?_
          refine ec_iadd hx hb d_R_build_75 ?_
          refine lv_aload_n hx hb d_R_build_76 rfl (lv_at hl 1 rfl) ?_
          refine va_get (D := (dC, dI)) (ci := 5) (v := .ref (a 9)) (C := R_R) (T := T_R) (N := 18) hx hb htb in_R hown hK hP 0 rfl rfl 12 (by decide) (htb _ wd_461) (fun _ h9 => h9) rfl d_R_build_77 ?_
          refine lv_iload hx hb d_R_build_80 (lv_at hl 0 rfl) ?_
          refine ec_ialdN (f := ur1.2.2.2.1) (i := vt) hx hb hK hP 9 0 rfl rfl (by omega) (by decide) d_R_build_82 ?_
          refine ec_iadd hx hb d_R_build_83 ?_
          refine lv_iload_n hx hb d_R_build_84 rfl (lv_at hl 2 rfl) ?_
          refine ec_isub hx hb d_R_build_85 (by omega) ?_
          refine lv_iload hx hb d_R_build_86 (lv_at hl 3 rfl) ?_
          refine ec_isub hx hb d_R_build_88 (by omega) ?_
          refine lv_istore hx hb d_R_build_89 hl (by decide) rfl (fun ls hl => ?_)
          replace hl : lv_has ls 7 [(6, .int (nI (((((ur1.2.1 vt) + (ur1.2.2.1 vt)) + (ur1.2.2.2.1 vt)) - i) - j))), (5, .int (nI vt)), (0, .ref (a 0)), (3, .int (nI i)), (4, .int (nI j))] := hl
          refine lv_aload_n hx hb d_R_build_91 rfl (lv_at hl 2 rfl) ?_
          refine lv_iload_n hx hb d_R_build_92 rfl (lv_at hl 3 rfl) ?_
          refine lv_iload hx hb d_R_build_93 (lv_at hl 4 rfl) ?_
          refine lv_iload hx hb d_R_build_95 (lv_at hl 0 rfl) ?_
          refine ec_vQv (C := "ExactMeshModel") (ci := 5) (q := (R_R, T_R, 18)) (q0 := 0) (As := [.int (nI i), .int (nI j), .int (nI (((((ur1.2.1 vt) + (ur1.2.2.1 vt)) + (ur1.2.2.2.1 vt)) - i) - j))]) (rest := []) ⟨hx, hb, hml, hown, htb⟩ (c_R_keep l dC dI a cI cZ cJ rn rx ry rl rf rt rh gx gy ur1.1 ur1.2.1 ur1.2.2.1 ur1.2.2.2.1 ur7 m2 d2 f2 ur1.2.2.2.2.2 rest i j (((((ur1.2.1 vt) + (ur1.2.2.1 vt)) + (ur1.2.2.2.1 vt)) - i) - j) g12 grl gll (by omega) (by omega) (by omega) (by have := ec_Kept_le gS gF hJ2.1; omega) A hD) kv_R_keep hK hP rfl rfl rfl hS wd_626 ⟨Nat.le_of_ble_eq_true rfl, Nat.le_of_ble_eq_true rfl⟩ ⟨rfl, rfl⟩ rfl hl.1 rfl (Nat.le_of_ble_eq_true rfl) d_R_build_97 ⟨Nat.zero_le _, Nat.zero_le _⟩ (fun ur97 H locs hr97 hP hS => ?_)
          replace hr97 : ec_KE m2 d2 f2 (ec_E rl rf rt) i j (((((ur1.2.1 vt) + (ur1.2.2.1 vt)) + (ur1.2.2.2.1 vt)) - i) - j) ur97 := hr97
          replace hP : va_P (dC, dI) vwCl (wR a cI cZ cJ rn rx ry rl rf rt rh gx gy ur1.1 ur1.2.1 ur1.2.2.1 ur1.2.2.2.1 ur7 ur97.1 ur97.2.1 ur97.2.2 ur1.2.2.2.2.2 ++ rest) H := hP
          replace hD : va_D A (wR a cI cZ cJ rn rx ry rl rf rt rh gx gy ur1.1 ur1.2.1 ur1.2.2.1 ur1.2.2.2.1 ur7 ur97.1 ur97.2.1 ur97.2.2 ur1.2.2.2.2.2 ++ rest) := ec_Dk hD rfl
          rw [hzz] at hr97
          refine ec_iinc (k := 4) hx hb d_R_build_100 hl rfl (by decide) rfl (fun ls hl => ?_)
          replace hl : lv_has ls 7 [(4, .int (nI (j + 1))), (6, .int (nI (((((ur1.2.1 vt) + (ur1.2.2.1 vt)) + (ur1.2.2.2.1 vt)) - i) - j))), (5, .int (nI vt)), (0, .ref (a 0)), (3, .int (nI i))] := hl
          refine lv_goto (tgt := 28) hx hb d_R_build_103 rfl ?_
          exact ih28 _ (by omega) (j := j + 1) (m2 := ur97.1) (d2 := ur97.2.1) (f2 := ur97.2.2) (ls := ls) (H := H) (locs := locs) (hS := hS) (hl := lv_sub hl [3, 4, 0] rfl) (hP := hP) (hD := hD) (hle2 := (by omega)) (hJ2 := (ec_BK_put gF g12 hJ2 (ec_lf_kept gF hr1 hr7 hvt.1 hrz h58) hr97)) (hk28 := rfl)
