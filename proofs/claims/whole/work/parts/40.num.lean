/-! numbers: signs, differences and products of ints in longs -/
def ec_sgn (z : Int) : Int32 := if 0 < z then 1 else if z = 0 then 0 else -1
theorem ec_sgn_pos {z : Int} (h : 0 < z) : ec_sgn z = 1 := if_pos h
theorem ec_sgn_zero : ec_sgn 0 = 0 := by decide
theorem ec_sgn_neg {z : Int} (h : z < 0) : ec_sgn z = -1 := by
  unfold ec_sgn
  rw [if_neg (by omega), if_neg (by omega)]
theorem ec_sgn_gt (z : Int) : 0 < ec_sgn z ↔ 0 < z := by
  rcases Int.lt_trichotomy z 0 with h | h | h
  · rw [ec_sgn_neg h]; exact ⟨fun q => absurd q (by decide), fun q => by omega⟩
  · subst h; exact ⟨fun q => absurd q (by decide), fun q => by omega⟩
  · rw [ec_sgn_pos h]; exact ⟨fun _ => h, fun _ => by decide⟩
theorem ec_sgn_lt (z : Int) : ec_sgn z < 0 ↔ z < 0 := by
  rcases Int.lt_trichotomy z 0 with h | h | h
  · rw [ec_sgn_neg h]; exact ⟨fun _ => h, fun _ => by decide⟩
  · subst h; exact ⟨fun q => absurd q (by decide), fun q => by omega⟩
  · rw [ec_sgn_pos h]; exact ⟨fun q => absurd q (by decide), fun q => by omega⟩
theorem ec_sgn_eq (z : Int) : ec_sgn z = 0 ↔ z = 0 := by
  rcases Int.lt_trichotomy z 0 with h | h | h
  · rw [ec_sgn_neg h]; exact ⟨fun q => absurd q (by decide), fun q => by omega⟩
  · subst h; exact ⟨fun _ => rfl, fun _ => by decide⟩
  · rw [ec_sgn_pos h]; exact ⟨fun q => absurd q (by decide), fun q => by omega⟩
theorem ec_sgn_ge (z : Int) : 0 ≤ ec_sgn z ↔ 0 ≤ z := by
  rcases Int.lt_trichotomy z 0 with h | h | h
  · rw [ec_sgn_neg h]; exact ⟨fun q => absurd q (by decide), fun q => by omega⟩
  · subst h; exact ⟨fun _ => by omega, fun _ => by decide⟩
  · rw [ec_sgn_pos h]; exact ⟨fun _ => by omega, fun _ => by decide⟩
theorem ec_sgn_le (z : Int) : ec_sgn z ≤ 0 ↔ z ≤ 0 := by
  rcases Int.lt_trichotomy z 0 with h | h | h
  · rw [ec_sgn_neg h]; exact ⟨fun _ => by omega, fun _ => by decide⟩
  · subst h; exact ⟨fun _ => by omega, fun _ => by decide⟩
  · rw [ec_sgn_pos h]; exact ⟨fun q => absurd q (by decide), fun q => by omega⟩
theorem ec_sgn_mul (u v : Int) : ec_sgn u * ec_sgn v = ec_sgn (u * v) := by
  rcases Int.lt_trichotomy u 0 with h | h | h <;> rcases Int.lt_trichotomy v 0 with k | k | k
  · rw [ec_sgn_neg h, ec_sgn_neg k, ec_sgn_pos (Int.mul_pos_of_neg_of_neg h k)]; decide
  · subst k; rw [ec_sgn_neg h, Int.mul_zero, ec_sgn_zero]; decide
  · rw [ec_sgn_neg h, ec_sgn_pos k, ec_sgn_neg (Int.mul_neg_of_neg_of_pos h k)]; decide
  · subst h; rw [ec_sgn_neg k, Int.zero_mul, ec_sgn_zero]; decide
  · subst h; subst k; decide
  · subst h; rw [ec_sgn_pos k, Int.zero_mul, ec_sgn_zero]; decide
  · rw [ec_sgn_pos h, ec_sgn_neg k, ec_sgn_neg (Int.mul_neg_of_pos_of_neg h k)]; decide
  · subst k; rw [ec_sgn_pos h, Int.mul_zero, ec_sgn_zero]; decide
  · rw [ec_sgn_pos h, ec_sgn_pos k, ec_sgn_pos (Int.mul_pos h k)]; decide
theorem ec_sgn_mul_lt (u v : Int) : ec_sgn u * ec_sgn v < 0 ↔ u * v < 0 := by rw [ec_sgn_mul]; exact ec_sgn_lt _
theorem ec_sgn_opp (z : Int) : ec_sgn (-z) = - ec_sgn z := by
  rcases Int.lt_trichotomy z 0 with h | h | h
  · rw [ec_sgn_neg h, ec_sgn_pos (by omega)]; decide
  · subst h; decide
  · rw [ec_sgn_pos h, ec_sgn_neg (by omega)]

theorem ec_bd (v : Int32) : -2147483648 ≤ v.toInt ∧ v.toInt < 2147483648 := ⟨Int32.le_toInt v, Int32.toInt_lt v⟩
theorem ec_bdL (v : Int64) : -9223372036854775808 ≤ v.toInt ∧ v.toInt < 9223372036854775808 := ⟨Int64.le_toInt v, Int64.toInt_lt v⟩
theorem ec_prod {A B p q : Int} (h1 : -A ≤ p) (h2 : p ≤ A) (h3 : -B ≤ q) (h4 : q ≤ B) : -(A * B) ≤ p * q ∧ p * q ≤ A * B := by
  have m1 := Int.mul_nonneg (show 0 ≤ A - p by omega) (show 0 ≤ B - q by omega)
  have m2 := Int.mul_nonneg (show 0 ≤ A + p by omega) (show 0 ≤ B + q by omega)
  have m3 := Int.mul_nonneg (show 0 ≤ A - p by omega) (show 0 ≤ B + q by omega)
  have m4 := Int.mul_nonneg (show 0 ≤ A + p by omega) (show 0 ≤ B - q by omega)
  constructor <;> grind
theorem ec_i2l_sub (a b : Int32) : (a.toInt64 - b.toInt64).toInt = a.toInt - b.toInt := by
  have h1 := ec_bd a
  have h2 := ec_bd b
  rw [Jvm.Kit.i64_sub (by rw [Jvm.Kit.i64_of_i32, Jvm.Kit.i64_of_i32]; omega) (by rw [Jvm.Kit.i64_of_i32, Jvm.Kit.i64_of_i32]; omega), Jvm.Kit.i64_of_i32, Jvm.Kit.i64_of_i32]
/-- the turn in longs, from differences -/
theorem ec_crossD {a b c d : Int64} (ha : -2000000 ≤ a.toInt ∧ a.toInt ≤ 2000000) (hb : -4000000000 ≤ b.toInt ∧ b.toInt ≤ 4000000000)
    (hc : -2000000 ≤ c.toInt ∧ c.toInt ≤ 2000000) (hd : -4000000000 ≤ d.toInt ∧ d.toInt ≤ 4000000000) :
    (a * b - c * d).toInt = a.toInt * b.toInt - c.toInt * d.toInt := by
  have p1 := ec_prod (A := 2000000) (B := 4000000000) ha.1 ha.2 hb.1 hb.2
  have p2 := ec_prod (A := 2000000) (B := 4000000000) hc.1 hc.2 hd.1 hd.2
  have e1 := Jvm.Kit.i64_mul (x := a) (y := b) (by omega) (by omega)
  have e2 := Jvm.Kit.i64_mul (x := c) (y := d) (by omega) (by omega)
  rw [Jvm.Kit.i64_sub (by rw [e1, e2]; omega) (by rw [e1, e2]; omega), e1, e2]
/-- sums of two products in longs, from differences of near points -/
theorem ec_dotD {a b c d : Int64} (ha : -2000000 ≤ a.toInt ∧ a.toInt ≤ 2000000) (hb : -2000000 ≤ b.toInt ∧ b.toInt ≤ 2000000)
    (hc : -2000000 ≤ c.toInt ∧ c.toInt ≤ 2000000) (hd : -2000000 ≤ d.toInt ∧ d.toInt ≤ 2000000) :
    (a * b + c * d).toInt = a.toInt * b.toInt + c.toInt * d.toInt ∧ -8000000000000 ≤ a.toInt * b.toInt + c.toInt * d.toInt ∧ a.toInt * b.toInt + c.toInt * d.toInt ≤ 8000000000000 := by
  have p1 := ec_prod (A := 2000000) (B := 2000000) ha.1 ha.2 hb.1 hb.2
  have p2 := ec_prod (A := 2000000) (B := 2000000) hc.1 hc.2 hd.1 hd.2
  have e1 := Jvm.Kit.i64_mul (x := a) (y := b) (by omega) (by omega)
  have e2 := Jvm.Kit.i64_mul (x := c) (y := d) (by omega) (by omega)
  refine ⟨?_, by omega, by omega⟩
  rw [Jvm.Kit.i64_add (by rw [e1, e2]; omega) (by rw [e1, e2]; omega), e1, e2]
/-- a point near the middle -/
def ec_near (v : Int32) : Prop := -1000000 ≤ v.toInt ∧ v.toInt ≤ 1000000
/-- which side: the turn from a over b to a place -/
def ec_lf (xa ya xb yb px py : Int) : Int := (xb - xa) * (py - ya) - (yb - ya) * (px - xa)
theorem ec_left {xa ya xb yb : Int32} (px py : Int32) (h1 : ec_near xa) (h2 : ec_near ya) (h3 : ec_near xb) (h4 : ec_near yb) :
    ((xb.toInt64 - xa.toInt64) * (py.toInt64 - ya.toInt64) - (yb.toInt64 - ya.toInt64) * (px.toInt64 - xa.toInt64)).toInt = ec_lf xa.toInt ya.toInt xb.toInt yb.toInt px.toInt py.toInt := by
  have b1 := ec_bd px
  have b2 := ec_bd py
  unfold ec_near at *
  rw [ec_crossD (by rw [ec_i2l_sub]; omega) (by rw [ec_i2l_sub]; omega) (by rw [ec_i2l_sub]; omega) (by rw [ec_i2l_sub]; omega)]
  rw [ec_i2l_sub, ec_i2l_sub, ec_i2l_sub, ec_i2l_sub]
  rfl
/-- on the stretch, ends among it: in the box, and no turn -/
def ec_on (xa ya xb yb px py : Int) : Prop := ec_lf xa ya xb yb px py = 0 ∧ min xa xb ≤ px ∧ px ≤ max xa xb ∧ min ya yb ≤ py ∧ py ≤ max ya yb
theorem ec_on_dot (xa ya xb yb px py : Int) : ec_on xa ya xb yb px py ↔ (ec_lf xa ya xb yb px py = 0 ∧ (xa - px) * (xb - px) + (ya - py) * (yb - py) ≤ 0) := by
  unfold ec_on
  constructor
  · rintro ⟨h0, h1, h2, h3, h4⟩
    refine ⟨h0, ?_⟩
    have k : ∀ a b c : Int, min a b ≤ c → c ≤ max a b → (a - c) * (b - c) ≤ 0 := by
      intro a b c h1 h2
      rcases Int.le_total a b with h | h
      · have := Int.mul_nonneg (show 0 ≤ c - a by omega) (show 0 ≤ b - c by omega)
        grind
      · have := Int.mul_nonneg (show 0 ≤ a - c by omega) (show 0 ≤ c - b by omega)
        grind
    have := k xa xb px h1 h2
    have := k ya yb py h3 h4
    omega
  · rintro ⟨h0, h1⟩
    refine ⟨h0, ?_⟩
    have e : (xa - px) * (yb - py) = (ya - py) * (xb - px) := by unfold ec_lf at h0; grind
    have sq : 0 ≤ ((xa - px) * (xb - px)) * ((ya - py) * (yb - py)) := by
      have : ((xa - px) * (xb - px)) * ((ya - py) * (yb - py)) = ((xa - px) * (yb - py)) * ((ya - py) * (xb - px)) := by grind
      rw [this, e]
      rcases Int.lt_or_le ((ya - py) * (xb - px)) 0 with h | h
      · exact Int.le_of_lt (Int.mul_pos_of_neg_of_neg h h)
      · exact Int.mul_nonneg h h
    have k1 : (xa - px) * (xb - px) ≤ 0 := by
      apply Classical.byContradiction; intro h
      have h2 : (ya - py) * (yb - py) < 0 := by omega
      have := Int.mul_neg_of_pos_of_neg (show 0 < (xa - px) * (xb - px) by omega) h2
      omega
    have k2 : (ya - py) * (yb - py) ≤ 0 := by
      apply Classical.byContradiction; intro h
      have h2 : (xa - px) * (xb - px) < 0 := by omega
      have := Int.mul_neg_of_neg_of_pos h2 (show 0 < (ya - py) * (yb - py) by omega)
      omega
    have k : ∀ a b c : Int, (a - c) * (b - c) ≤ 0 → min a b ≤ c ∧ c ≤ max a b := by
      intro a b c h
      rcases Int.lt_trichotomy (a - c) 0 with h1 | h1 | h1
      · have : 0 ≤ b - c := by
          apply Classical.byContradiction; intro q
          have := Int.mul_pos_of_neg_of_neg h1 (show b - c < 0 by omega)
          omega
        omega
      · omega
      · have : b - c ≤ 0 := by
          apply Classical.byContradiction; intro q
          have := Int.mul_pos h1 (show 0 < b - c by omega)
          omega
        omega
    have := k xa xb px k1
    have := k ya yb py k2
    omega
/-! limbs of 22 bits -/
theorem ec_mul3 {x1 y1 x2 y2 x3 y3 : Int64} (a1 : -4194304 ≤ x1.toInt ∧ x1.toInt ≤ 4194304) (b1 : -4194304 ≤ y1.toInt ∧ y1.toInt ≤ 4194304)
    (a2 : -4194304 ≤ x2.toInt ∧ x2.toInt ≤ 4194304) (b2 : -4194304 ≤ y2.toInt ∧ y2.toInt ≤ 4194304)
    (a3 : -4194304 ≤ x3.toInt ∧ x3.toInt ≤ 4194304) (b3 : -4194304 ≤ y3.toInt ∧ y3.toInt ≤ 4194304) :
    (x1 * y1 + x2 * y2 + x3 * y3).toInt = x1.toInt * y1.toInt + x2.toInt * y2.toInt + x3.toInt * y3.toInt ∧
    -52776558133248 ≤ x1.toInt * y1.toInt + x2.toInt * y2.toInt + x3.toInt * y3.toInt ∧ x1.toInt * y1.toInt + x2.toInt * y2.toInt + x3.toInt * y3.toInt ≤ 52776558133248 := by
  have p1 := ec_prod (A := 4194304) (B := 4194304) a1.1 a1.2 b1.1 b1.2
  have p2 := ec_prod (A := 4194304) (B := 4194304) a2.1 a2.2 b2.1 b2.2
  have p3 := ec_prod (A := 4194304) (B := 4194304) a3.1 a3.2 b3.1 b3.2
  have e1 := Jvm.Kit.i64_mul (x := x1) (y := y1) (by omega) (by omega)
  have e2 := Jvm.Kit.i64_mul (x := x2) (y := y2) (by omega) (by omega)
  have e3 := Jvm.Kit.i64_mul (x := x3) (y := y3) (by omega) (by omega)
  have e4 : (x1 * y1 + x2 * y2).toInt = x1.toInt * y1.toInt + x2.toInt * y2.toInt := by
    rw [Jvm.Kit.i64_add (by rw [e1, e2]; omega) (by rw [e1, e2]; omega), e1, e2]
  refine ⟨?_, by omega, by omega⟩
  rw [Jvm.Kit.i64_add (by rw [e4, e3]; omega) (by rw [e4, e3]; omega), e4, e3]
theorem ec_or_and (x y z : Int64) : (x ||| y) &&& z = 0 ↔ (x &&& z = 0 ∧ y &&& z = 0) := by
  have key : ∀ w : Int64, w = 0 ↔ ∀ i, w.toBitVec.getLsbD i = false := by
    intro w
    constructor
    · intro h i; subst h; simp
    · intro h
      apply Int64.toBitVec_inj.mp
      apply BitVec.eq_of_getLsbD_eq
      intro i _
      rw [h i]; simp
  rw [key, key, key]
  simp only [Int64.toBitVec_and, Int64.toBitVec_or, BitVec.getLsbD_and, BitVec.getLsbD_or]
  constructor
  · intro h
    refine ⟨fun i => ?_, fun i => ?_⟩
    · have := h i; revert this; cases x.toBitVec.getLsbD i <;> cases y.toBitVec.getLsbD i <;> cases z.toBitVec.getLsbD i <;> simp
    · have := h i; revert this; cases x.toBitVec.getLsbD i <;> cases y.toBitVec.getLsbD i <;> cases z.toBitVec.getLsbD i <;> simp
  · rintro ⟨h1, h2⟩ i
    have := h1 i; have := h2 i; revert this; revert this
    cases x.toBitVec.getLsbD i <;> cases y.toBitVec.getLsbD i <;> cases z.toBitVec.getLsbD i <;> simp
theorem ec_eq0 (z : Int64) : z = 0 ↔ z.toInt = 0 := by
  rw [← Int64.toInt_inj, Int64.toInt_zero]
theorem ec_limbs {A B C D E F : Int} (hA : -8796093022208 ≤ A ∧ A ≤ 8796093022208) (hB : -8796093022208 ≤ B ∧ B ≤ 8796093022208)
    (hC : -8796093022208 ≤ C ∧ C ≤ 8796093022208) (hD : -8796093022208 ≤ D ∧ D ≤ 8796093022208)
    (hE : -8796093022208 ≤ E ∧ E ≤ 8796093022208) (hF : -8796093022208 ≤ F ∧ F ≤ 8796093022208)
    {ua ub uc ud ue uf la lb lc ld le lf ma mb mc : Int64}
    (ha : ua.toInt = A / 4194304) (hb : ub.toInt = B / 4194304) (hc : uc.toInt = C / 4194304) (hd : ud.toInt = D / 4194304) (he : ue.toInt = E / 4194304) (hf : uf.toInt = F / 4194304)
    (ka : la.toInt = A % 4194304) (kb : lb.toInt = B % 4194304) (kc : lc.toInt = C % 4194304) (kd : ld.toInt = D % 4194304) (ke : le.toInt = E % 4194304) (kf : lf.toInt = F % 4194304)
    (m1 : ma.toInt = A / 4194304 * (B % 4194304) + A % 4194304 * (B / 4194304)) (m2 : mb.toInt = C / 4194304 * (D % 4194304) + C % 4194304 * (D / 4194304)) (m3 : mc.toInt = E / 4194304 * (F % 4194304) + E % 4194304 * (F / 4194304))
    {high mid low : Int64} (el : low = la * lb + lc * ld + le * lf) (em : mid = ma + mb + mc + low >>> ((nI 22).toInt64 &&& 63)) (eh : high = ua * ub + uc * ud + ue * uf + mid >>> ((nI 22).toInt64 &&& 63)) :
    (¬ high = 0 → ec_sgn high.toInt = ec_sgn (A * B + C * D + E * F)) ∧
    (high = 0 → ((mid ||| low) &&& 4194303 = 0 → ec_sgn (A * B + C * D + E * F) = 0) ∧ (¬ (mid ||| low) &&& 4194303 = 0 → ec_sgn (A * B + C * D + E * F) = 1)) := by
  have L := ge_limbs (a := A) (b := B) (c := C) (d := D) (e := E) (f := F)
  simp only at L
  have q1 := ec_mul3 (x1 := ua) (y1 := ub) (x2 := uc) (y2 := ud) (x3 := ue) (y3 := uf) (by omega) (by omega) (by omega) (by omega) (by omega) (by omega)
  have q2 := ec_mul3 (x1 := la) (y1 := lb) (x2 := lc) (y2 := ld) (x3 := le) (y3 := lf) (by omega) (by omega) (by omega) (by omega) (by omega) (by omega)
  have r1 := ec_prod (A := 4194304) (B := 4194304) (p := A / 4194304) (q := B % 4194304) (by omega) (by omega) (by omega) (by omega)
  have r2 := ec_prod (A := 4194304) (B := 4194304) (p := A % 4194304) (q := B / 4194304) (by omega) (by omega) (by omega) (by omega)
  have r3 := ec_prod (A := 4194304) (B := 4194304) (p := C / 4194304) (q := D % 4194304) (by omega) (by omega) (by omega) (by omega)
  have r4 := ec_prod (A := 4194304) (B := 4194304) (p := C % 4194304) (q := D / 4194304) (by omega) (by omega) (by omega) (by omega)
  have r5 := ec_prod (A := 4194304) (B := 4194304) (p := E / 4194304) (q := F % 4194304) (by omega) (by omega) (by omega) (by omega)
  have r6 := ec_prod (A := 4194304) (B := 4194304) (p := E % 4194304) (q := F / 4194304) (by omega) (by omega) (by omega) (by omega)
  rw [ha, hb, hc, hd, he, hf] at q1
  rw [ka, kb, kc, kd, ke, kf] at q2
  rw [← el] at q2
  have s1 : (low >>> ((nI 22).toInt64 &&& 63)).toInt = low.toInt / 4194304 := Jvm.Kit.i64_shr low _ (k := 22) (by decide)
  have t1 : (ma + mb).toInt = ma.toInt + mb.toInt := Jvm.Kit.i64_add (by omega) (by omega)
  have t2 : (ma + mb + mc).toInt = ma.toInt + mb.toInt + mc.toInt := by rw [Jvm.Kit.i64_add (by omega) (by omega), t1]
  have t3 : mid.toInt = ma.toInt + mb.toInt + mc.toInt + low.toInt / 4194304 := by rw [em, Jvm.Kit.i64_add (by omega) (by omega), t2, s1]
  have s2 : (mid >>> ((nI 22).toInt64 &&& 63)).toInt = mid.toInt / 4194304 := Jvm.Kit.i64_shr mid _ (k := 22) (by decide)
  have t4 : high.toInt = (ua * ub + uc * ud + ue * uf).toInt + mid.toInt / 4194304 := by rw [eh, Jvm.Kit.i64_add (by omega) (by omega), s2]
  rw [q1.1] at t4
  rw [q2.1] at t3
  rw [m1, m2, m3] at t3
  have SS : A * B + C * D + E * F = high.toInt * 17592186044416 + (mid.toInt % 4194304) * 4194304 + low.toInt % 4194304 := by
    rw [L, t4, t3, q2.1]
  have Z := ge_limbs_sign SS
  have z1 : mid &&& 4194303 = 0 ↔ mid.toInt % 4194304 = 0 := by
    rw [ec_eq0, Jvm.Kit.i64_mask mid 4194303 (k := 22) (by decide) (by decide)]; exact Iff.rfl
  have z2 : low &&& 4194303 = 0 ↔ low.toInt % 4194304 = 0 := by
    rw [ec_eq0, Jvm.Kit.i64_mask low 4194303 (k := 22) (by decide) (by decide)]; exact Iff.rfl
  refine ⟨fun h => ?_, fun h => ⟨fun k => ?_, fun k => ?_⟩⟩
  · rw [ec_eq0] at h
    rcases Int.lt_or_gt_of_ne h with g | g
    · rw [ec_sgn_neg g, ec_sgn_neg (Z.2.2.mpr g)]
    · rw [ec_sgn_pos g, ec_sgn_pos (Z.1.mpr (Or.inl g))]
  · rw [ec_eq0] at h
    rw [ec_or_and, z1, z2] at k
    rw [Z.2.1.mpr ⟨h, k.1, k.2⟩]; exact ec_sgn_zero
  · rw [ec_eq0] at h
    rw [ec_or_and, z1, z2] at k
    exact ec_sgn_pos (Z.1.mpr (Or.inr ⟨h, k⟩))
/-! limbs of 15 bits -/
def ec_l0 (z : Int) : Int := z % 32768
def ec_l1 (z : Int) : Int := z / 32768 % 32768
def ec_l2 (z : Int) : Int := z / 1073741824
theorem ec_l_sum (z : Int) : z = ec_l0 z + ec_l1 z * 32768 + ec_l2 z * 1073741824 := by
  unfold ec_l0 ec_l1 ec_l2; omega
theorem ec_l_bd {z : Int} (h : -8796093022208 ≤ z ∧ z ≤ 8796093022208) :
    (0 ≤ ec_l0 z ∧ ec_l0 z ≤ 32768) ∧ (0 ≤ ec_l1 z ∧ ec_l1 z ≤ 32768) ∧ (-32768 ≤ ec_l2 z ∧ ec_l2 z ≤ 32768) := by
  unfold ec_l0 ec_l1 ec_l2; omega
theorem ec_l_mul (z w : Int) : z * w = ec_l0 z * ec_l0 w + (ec_l0 z * ec_l1 w + ec_l1 z * ec_l0 w) * 32768 + (ec_l0 z * ec_l2 w + ec_l1 z * ec_l1 w + ec_l2 z * ec_l0 w) * 1073741824
    + (ec_l1 z * ec_l2 w + ec_l2 z * ec_l1 w) * 35184372088832 + ec_l2 z * ec_l2 w * 1152921504606846976 := by
  have h1 := ec_l_sum z
  have h2 := ec_l_sum w
  revert h1 h2
  generalize ec_l0 z = a; generalize ec_l1 z = b; generalize ec_l2 z = c
  generalize ec_l0 w = d; generalize ec_l1 w = e; generalize ec_l2 w = f
  intro h1 h2
  subst h1; subst h2
  grind
theorem ec_carry {S p0 p1 p2 p3 p4 q1 q2 q3 q4 : Int} (hS : S = p0 + p1 * 32768 + p2 * 1073741824 + p3 * 35184372088832 + p4 * 1152921504606846976)
    (h1 : q1 = p1 + p0 / 32768) (h2 : q2 = p2 + q1 / 32768) (h3 : q3 = p3 + q2 / 32768) (h4 : q4 = p4 + q3 / 32768) :
    (q4 < 0 → S < 0) ∧ (0 < q4 → 0 < S) ∧ (q4 = 0 → (0 < S ↔ ¬ (p0 % 32768 = 0 ∧ q1 % 32768 = 0 ∧ q2 % 32768 = 0 ∧ q3 % 32768 = 0)) ∧ (S = 0 ↔ (p0 % 32768 = 0 ∧ q1 % 32768 = 0 ∧ q2 % 32768 = 0 ∧ q3 % 32768 = 0))) := by
  have e : S = p0 % 32768 + q1 % 32768 * 32768 + q2 % 32768 * 1073741824 + q3 % 32768 * 35184372088832 + q4 * 1152921504606846976 := by omega
  have b0 := Int.emod_nonneg p0 (show (32768 : Int) ≠ 0 by omega)
  have b1 := Int.emod_nonneg q1 (show (32768 : Int) ≠ 0 by omega)
  have b2 := Int.emod_nonneg q2 (show (32768 : Int) ≠ 0 by omega)
  have b3 := Int.emod_nonneg q3 (show (32768 : Int) ≠ 0 by omega)
  have c0 := Int.emod_lt_of_pos p0 (show (0 : Int) < 32768 by omega)
  have c1 := Int.emod_lt_of_pos q1 (show (0 : Int) < 32768 by omega)
  have c2 := Int.emod_lt_of_pos q2 (show (0 : Int) < 32768 by omega)
  have c3 := Int.emod_lt_of_pos q3 (show (0 : Int) < 32768 by omega)
  clear hS h1 h2 h3 h4
  revert e b0 b1 b2 b3 c0 c1 c2 c3
  generalize p0 % 32768 = r0; generalize q1 % 32768 = r1; generalize q2 % 32768 = r2; generalize q3 % 32768 = r3
  intro e b0 b1 b2 b3 c0 c1 c2 c3
  refine ⟨fun h => by omega, fun h => by omega, fun h => ⟨⟨fun k => by omega, fun k => by omega⟩, ⟨fun k => by omega, fun k => by omega⟩⟩⟩
