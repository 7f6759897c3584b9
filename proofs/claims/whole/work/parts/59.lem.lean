/-! small facts for the ends of the walks -/
theorem ec_isB.t1 {P : Prop} (h : P) : ec_isB (nI 1) P := Or.inl ⟨by decide, h⟩
theorem ec_isB.f0 {P : Prop} (h : ¬ P) : ec_isB (nI 0) P := Or.inr ⟨by decide, h⟩
theorem ec_L0 : (0 : Int64).toInt = 0 := by decide
theorem ec_sg0 {z : Int64} (h : z = 0) : nI 0 = ec_sgn z.toInt := by
  subst h; decide
theorem ec_sgm {z : Int64} (h0 : ¬ z = 0) (h : z ≤ 0) : (-1 : Int32) = ec_sgn z.toInt := by
  rw [Int64.le_iff_toInt_le, ec_L0] at h
  rw [ec_eq0] at h0
  rw [ec_sgn_neg (by omega)]
theorem ec_sg1 {z : Int64} (h : ¬ z ≤ 0) : nI 1 = ec_sgn z.toInt := by
  rw [Int64.le_iff_toInt_le, ec_L0] at h
  rw [ec_sgn_pos (by omega)]; decide
theorem ec_mixed {z w : Int64} (hz : -8796093022208 ≤ z.toInt ∧ z.toInt ≤ 8796093022208) (hw : -8796093022208 ≤ w.toInt ∧ w.toInt ≤ 8796093022208) :
    (z >>> ((nI 22).toInt64 &&& 63) * (w &&& 4194303) + (z &&& 4194303) * w >>> ((nI 22).toInt64 &&& 63)).toInt = z.toInt / 4194304 * (w.toInt % 4194304) + z.toInt % 4194304 * (w.toInt / 4194304) := by
  have a1 : (z >>> ((nI 22).toInt64 &&& 63)).toInt = z.toInt / 4194304 := Jvm.Kit.i64_shr z _ (k := 22) (by decide)
  have a2 : (w >>> ((nI 22).toInt64 &&& 63)).toInt = w.toInt / 4194304 := Jvm.Kit.i64_shr w _ (k := 22) (by decide)
  have a3 : (z &&& 4194303).toInt = z.toInt % 4194304 := Jvm.Kit.i64_mask z 4194303 (k := 22) (by decide) (by decide)
  have a4 : (w &&& 4194303).toInt = w.toInt % 4194304 := Jvm.Kit.i64_mask w 4194303 (k := 22) (by decide) (by decide)
  have r1 := ec_prod (A := 4194304) (B := 4194304) (p := z.toInt / 4194304) (q := w.toInt % 4194304) (by omega) (by omega) (by omega) (by omega)
  have r2 := ec_prod (A := 4194304) (B := 4194304) (p := z.toInt % 4194304) (q := w.toInt / 4194304) (by omega) (by omega) (by omega) (by omega)
  have m1 : (z >>> ((nI 22).toInt64 &&& 63) * (w &&& 4194303)).toInt = z.toInt / 4194304 * (w.toInt % 4194304) := by
    rw [Jvm.Kit.i64_mul (by rw [a1, a4]; omega) (by rw [a1, a4]; omega), a1, a4]
  have m2 : ((z &&& 4194303) * w >>> ((nI 22).toInt64 &&& 63)).toInt = z.toInt % 4194304 * (w.toInt / 4194304) := by
    rw [Jvm.Kit.i64_mul (by rw [a3, a2]; omega) (by rw [a3, a2]; omega), a3, a2]
  rw [Jvm.Kit.i64_add (by rw [m1, m2]; omega) (by rw [m1, m2]; omega), m1, m2]
theorem ec_has0 {v : Int32} {n : Nat} (h : v < 0) : ec_isB (nI 0) (0 ≤ v.toInt ∧ v.toInt < n) := by
  rw [Int32.lt_iff_toInt_lt] at h
  refine ec_isB.f0 (fun q => ?_)
  have : (0 : Int32).toInt = 0 := by decide
  omega
theorem ec_has1 {v : Int32} {n : Nat} (hn : n < 2 ^ 31) (h : nI n ≤ v) : ec_isB (nI 0) (0 ≤ v.toInt ∧ v.toInt < n) := by
  rw [Int32.le_iff_toInt_le, nI_toInt hn] at h
  exact ec_isB.f0 (fun q => by omega)
theorem ec_has2 {v : Int32} {n : Nat} (hn : n < 2 ^ 31) (h0 : ¬ v < 0) (h : ¬ nI n ≤ v) : ec_isB (nI 1) (0 ≤ v.toInt ∧ v.toInt < n) := by
  rw [Int32.le_iff_toInt_le, nI_toInt hn] at h
  rw [Int32.lt_iff_toInt_lt] at h0
  have : (0 : Int32).toInt = 0 := by decide
  exact ec_isB.t1 ⟨by omega, by omega⟩
/-- the points that a state holds -/
def ec_P (px py : Nat → Int32) : Nat → ge_Pt := ge_PP (fun i => (px i).toInt) (fun i => (py i).toInt)
theorem ec_ori_lf (px py : Nat → Int32) (i j k : Nat) : ge_ori (ec_P px py i) (ec_P px py j) (ec_P px py k) = ec_lf (px i).toInt (py i).toInt (px j).toInt (py j).toInt (px k).toInt (py k).toInt := rfl
theorem ec_btw_on (px py : Nat → Int32) (i j k : Nat) : ge_Btw (ec_P px py i) (ec_P px py j) (ec_P px py k) ↔ ec_on (px i).toInt (py i).toInt (px j).toInt (py j).toInt (px k).toInt (py k).toInt := Iff.rfl
theorem ec_mn (x y : Int32) : (if y < x then y else x).toInt = min x.toInt y.toInt := by
  split
  · rename_i h; rw [Int32.lt_iff_toInt_lt] at h; omega
  · rename_i h; rw [Int32.lt_iff_toInt_lt] at h; omega
theorem ec_mx (x y : Int32) : (if x < y then y else x).toInt = max x.toInt y.toInt := by
  split
  · rename_i h; rw [Int32.lt_iff_toInt_lt] at h; omega
  · rename_i h; rw [Int32.lt_iff_toInt_lt] at h; omega
theorem ec_bt_lo {v x y : Int32} (h : v < (if y < x then y else x)) : v.toInt < min x.toInt y.toInt := by rw [Int32.lt_iff_toInt_lt, ec_mn] at h; exact h
theorem ec_bt_lo' {v x y : Int32} (h : ¬ v < (if y < x then y else x)) : min x.toInt y.toInt ≤ v.toInt := by rw [Int32.lt_iff_toInt_lt, ec_mn] at h; omega
theorem ec_bt_hi {v x y : Int32} (h : (if x < y then y else x) < v) : max x.toInt y.toInt < v.toInt := by rw [Int32.lt_iff_toInt_lt, ec_mx] at h; exact h
theorem ec_bt_hi' {v x y : Int32} (h : ¬ (if x < y then y else x) < v) : v.toInt ≤ max x.toInt y.toInt := by rw [Int32.lt_iff_toInt_lt, ec_mx] at h; omega
/-- which point lies at a place -/
def ec_num (n : Nat) (x y : Nat → Int32) (vx vy : Int32) (o : Option Nat) : Prop := (∀ v, o = some v → v < n ∧ x v = vx ∧ y v = vy) ∧ (o = none → ∀ v, v < n → ¬ (x v = vx ∧ y v = vy))
theorem ec_sqd {x1 y1 x2 y2 : Int32} (h1 : ec_near x1) (h2 : ec_near y1) (h3 : ec_near x2) (h4 : ec_near y2) :
    ((x2.toInt64 - x1.toInt64) * (x2.toInt64 - x1.toInt64) + (y2.toInt64 - y1.toInt64) * (y2.toInt64 - y1.toInt64)).toInt = (x2.toInt - x1.toInt) * (x2.toInt - x1.toInt) + (y2.toInt - y1.toInt) * (y2.toInt - y1.toInt) := by
  unfold ec_near at *
  rw [(ec_dotD (by rw [ec_i2l_sub]; omega) (by rw [ec_i2l_sub]; omega) (by rw [ec_i2l_sub]; omega) (by rw [ec_i2l_sub]; omega)).1, ec_i2l_sub, ec_i2l_sub]
theorem ec_near_bd {x1 x2 : Int32} (h1 : ec_near x1) (h2 : ec_near x2) : -2000000 ≤ x2.toInt - x1.toInt ∧ x2.toInt - x1.toInt ≤ 2000000 := by unfold ec_near at *; omega
theorem ec_sq_bd {p q r t : Int} (h1 : -2000000 ≤ p ∧ p ≤ 2000000) (h2 : -2000000 ≤ q ∧ q ≤ 2000000) (h3 : -2000000 ≤ r ∧ r ≤ 2000000) (h4 : -2000000 ≤ t ∧ t ≤ 2000000) :
    (-8796093022208 ≤ p * q + r * t ∧ p * q + r * t ≤ 8796093022208) ∧ (-8796093022208 ≤ p * q - r * t ∧ p * q - r * t ≤ 8796093022208) := by
  have p1 := ec_prod (A := 2000000) (B := 2000000) h1.1 h1.2 h2.1 h2.2
  have p2 := ec_prod (A := 2000000) (B := 2000000) h3.1 h3.2 h4.1 h4.2
  omega
/-- the test by the circle, over the points that a state holds -/
def ec_circ (px py : Nat → Int32) (i j k m : Nat) : Int := ge_circ (fun i => (px i).toInt) (fun i => (py i).toInt) i j k m
theorem ec_mul_ge {u v : Int} (h : (0 : Int32) ≤ ec_sgn u * ec_sgn v) : ¬ u * v < 0 := by
  rw [ec_sgn_mul, ec_sgn_ge] at h; omega
theorem ec_mul_lt {u v : Int} (h : ¬ (0 : Int32) ≤ ec_sgn u * ec_sgn v) : u * v < 0 := by
  rw [ec_sgn_mul, ec_sgn_ge] at h; omega
theorem ec_sle {z : Int} (h : ec_sgn z ≤ 0) : ¬ 0 < z := by rw [ec_sgn_le] at h; omega
theorem ec_sgt {z : Int} (h : ¬ ec_sgn z ≤ 0) : 0 < z := by rw [ec_sgn_le] at h; omega
section
variable {p : Program} {l : Launch} {e : Env} {R : Room} {s : State} {m : MethodId} {args : Array Value} {below : List Frame} {meth : Method} {c : Code} {H : Heap} {locs : List Loc} {cells slots : Nat} {Q : State → Prop} {cc : ByteArray} {pc : Nat} {ls : Array Slot} {rest : List Value}
variable {D : va_G} {cl : List vw_C} {A : Nat → Prop} {tys : List (ClassId × FieldType)} {w : va_W} {H0 : Heap} {y : MethodName} {bytes : ByteArray} {maxL nL n index : Nat} {ret : Option FieldType} {rm : Room} {own C : String} {b : Nat} {As st0 : List Value}
/-- a call with more than 8 words below its arguments -/
theorem ec_vSl16 {post : Int64 → Prop} (S : CallFix p m c cc nL s args ec_tbl own) (hM : Met l y (Cond.code y bytes maxL ret :: ec_tbl) rm (va_Pc (.ref b :: As) (fun U => va_P D cl w U.heap ∧ va_K D cl tys U)) (vp_Sl post) 0 0 (fun _ => False)) (K : ec_Kv C y bytes maxL ret n) (hK : va_K D cl tys s) (hP : va_P D cl w H) {q0 ci : Nat} {q : vw_C} {fs : List Value} (hc : cl[ci]? = some q) (hC : q.1 = C) (he : w[q0]? = some (b, .inr (ci, fs)))
    (hl : Cond.methodLink own index y ∈ ec_tbl) (hR : rm.frames + 1 ≤ R.frames ∧ 16 + (maxL + 11) + rm.locals ≤ R.locals) (hz : rm.cells = 0 ∧ rm.slots = 0) (hn : As.length = n) (hsize : ls.size = nL) (hstack : st0 = As.reverse ++ .ref b :: rest) (hW : (rest.map fun v => v.category).sum ≤ 16) (hd : decode cc pc = .ok (.invokevirtual index, 3)) (hf : cells ≤ R.cells ∧ slots ≤ R.slots)
    (kk : ∀ r : Int64, post r → W p l e R s m args below meth c H locs cells slots Q (F0 m (pc + 3) ls (.long r :: rest))) : W p l e R s m args below meth c H locs cells slots Q (F0 m pc ls st0) := by
  subst hC
  have htb := S.2.2.2.2
  have hB : Back l R p e below s args y 3 16 (PreOf R 0 0 (va_Pc (.ref b :: As) (fun U => va_P D cl w U.heap ∧ va_K D cl tys U))) (PostOf (vp_Sl post) 0 0 (fun _ => False)) :=
    back_of (bytes := bytes) (maxL := maxL) (ret := ret) hM ec_blind hz.1 hz.2 hR.1 hR.2
      (fun w hw a' U hW => by
        rcases List.mem_cons.mp hw with e | e
        · rw [e]; exact ec_warm hW K.1.1 (htb _ K.1.1)
        · exact ec_warm hW e (htb _ e)) List.mem_cons_self (fun a' U hW => ec_warm hW K.1.2.1 (htb _ K.1.2.1))
  obtain ⟨hx, hb, hml, ho, -⟩ := S
  obtain ⟨cellB, hcB, hoB, hclB⟩ := va_recv hK hP hc he
  refine vp_callSl (a := (Value.ref b :: As).toArray) (va_Run.run ?_) kk
  intro T hT X
  obtain ⟨v, vm₁, ⟨U', l2, c2, s2⟩, hW₁, X', ⟨g', mk, t, L, e1, e2, hq, h1, hL, h2, h3⟩, st⟩ := callV X hx (C := q.1) (bytes := bytes) (maxL := maxL) (ret := ret) ho (htb _ hl) (htb _ K.2.1) (htb _ K.2.2) (htb _ K.1.1) K.1.2.2.1 hB (by rw [hT]; exact hcB) hoB hclB (g := F0 m pc ls st0) rfl (hsize.trans hml.symm) (argsL := As) (rest := rest)
    (fun sig h => hn.trans (by have h4 := K.1.2.2.2; rw [h] at h4; exact (Option.some.inj h4).symm)) hstack (by show 2 * 0 + _ ≤ 16; omega) (by rw [hb]; exact hd)
    (fun vm₁ hW₁ => ⟨hf.1, hf.2, rfl, by rw [show (Pt.U ⟨T.setVm vm₁, locs, cells, slots⟩).heap = H from hT]; exact hP, va_K.moved hW₁.alike hK⟩)
  dsimp only [Pt.U, Pt.locs, Pt.cells, Pt.slots] at X' e1 e2 h1 h2 h3 st
  subst h1; subst h2; subst h3
  exact ⟨v, (T.setVm vm₁).calling g' mk (Value.ref b :: As).toArray, t, U', L, hT, X', hL, e1, e2, hq, st⟩
end
