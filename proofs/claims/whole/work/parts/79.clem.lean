/-! the reference's sums of five limbs -/
theorem ec_ls0 (z : Int64) : (z >>> ((nI (15 * 0)).toInt64 &&& 63) &&& 32767).toInt = ec_l0 z.toInt := by
  rw [Jvm.Kit.i64_mask _ 32767 (k := 15) (by decide) (by decide), Jvm.Kit.i64_shr z _ (k := 0) (by decide)]
  unfold ec_l0
  omega
theorem ec_ls1 (z : Int64) : (z >>> ((nI (15 * 1)).toInt64 &&& 63) &&& 32767).toInt = ec_l1 z.toInt := by
  rw [Jvm.Kit.i64_mask _ 32767 (k := 15) (by decide) (by decide), Jvm.Kit.i64_shr z _ (k := 15) (by decide)]
  rfl
theorem ec_ls2 (z : Int64) : (z >>> ((nI 30).toInt64 &&& 63)).toInt = ec_l2 z.toInt := Jvm.Kit.i64_shr z _ (k := 30) (by decide)
def ec_BP (f : Nat → Int64) (K : Int) : Prop := ∀ j, j < 5 → -K ≤ (f j).toInt ∧ (f j).toInt ≤ K
def ec_AP (f g : Nat → Int64) (z w : Int) : Prop :=
  (g 0).toInt = (f 0).toInt + ec_l0 z * ec_l0 w ∧ (g 1).toInt = (f 1).toInt + ec_l0 z * ec_l1 w + ec_l1 z * ec_l0 w ∧ (g 2).toInt = (f 2).toInt + ec_l0 z * ec_l2 w + ec_l1 z * ec_l1 w + ec_l2 z * ec_l0 w ∧
  (g 3).toInt = (f 3).toInt + ec_l1 z * ec_l2 w + ec_l2 z * ec_l1 w ∧ (g 4).toInt = (f 4).toInt + ec_l2 z * ec_l2 w
theorem ec_am {a s m : Int64} {A S M K : Int} (ha : a.toInt = A) (hs : s.toInt = S) (hm : m.toInt = M) (bA : -K ≤ A ∧ A ≤ K) (bK : K ≤ 1000000000000) (bS : -32768 ≤ S ∧ S ≤ 32768) (bM : -32768 ≤ M ∧ M ≤ 32768) :
    (a + s * m).toInt = A + S * M ∧ -(K + 1073741824) ≤ A + S * M ∧ A + S * M ≤ K + 1073741824 := by
  have p := ec_prod (A := 32768) (B := 32768) bS.1 bS.2 bM.1 bM.2
  have e : (s * m).toInt = S * M := by rw [Jvm.Kit.i64_mul (by rw [hs, hm]; omega) (by rw [hs, hm]; omega), hs, hm]
  refine ⟨?_, by omega, by omega⟩
  rw [Jvm.Kit.i64_add (by rw [ha, e]; omega) (by rw [ha, e]; omega), ha, e]
theorem ec_lb {z : Int} (h : -8796093022208 ≤ z ∧ z ≤ 8796093022208) : (-32768 ≤ ec_l0 z ∧ ec_l0 z ≤ 32768) ∧ (-32768 ≤ ec_l1 z ∧ ec_l1 z ≤ 32768) ∧ (-32768 ≤ ec_l2 z ∧ ec_l2 z ≤ 32768) := by
  have := ec_l_bd h
  omega
theorem ec_ap {f q1 q2 q3 q4 q5 q6 q7 q8 q9 : Nat → Int64} {s0 m00 m01 m02 s1 m10 m11 m12 s2 m20 m21 m22 : Int64} {z w K : Int} (bz : -8796093022208 ≤ z ∧ z ≤ 8796093022208) (bw : -8796093022208 ≤ w ∧ w ≤ 8796093022208) (bK : K ≤ 900000000000) (hB : ec_BP f K)
    (hs0 : s0.toInt = ec_l0 z) (h00 : m00.toInt = ec_l0 w) (e1 : q1 = vp_updL f 0 (f 0 + s0 * m00)) (h01 : m01.toInt = ec_l1 w) (e2 : q2 = vp_updL q1 1 (q1 1 + s0 * m01)) (h02 : m02.toInt = ec_l2 w) (e3 : q3 = vp_updL q2 2 (q2 2 + s0 * m02))
    (hs1 : s1.toInt = ec_l1 z) (h10 : m10.toInt = ec_l0 w) (e4 : q4 = vp_updL q3 1 (q3 1 + s1 * m10)) (h11 : m11.toInt = ec_l1 w) (e5 : q5 = vp_updL q4 2 (q4 2 + s1 * m11)) (h12 : m12.toInt = ec_l2 w) (e6 : q6 = vp_updL q5 3 (q5 3 + s1 * m12))
    (hs2 : s2.toInt = ec_l2 z) (h20 : m20.toInt = ec_l0 w) (e7 : q7 = vp_updL q6 2 (q6 2 + s2 * m20)) (h21 : m21.toInt = ec_l1 w) (e8 : q8 = vp_updL q7 3 (q7 3 + s2 * m21)) (h22 : m22.toInt = ec_l2 w) (e9 : q9 = vp_updL q8 4 (q8 4 + s2 * m22)) :
    ec_AP f q9 z w ∧ ec_BP q9 (K + 3221225472) := by
  have lz := ec_lb bz
  have lw := ec_lb bw
  have g0 : q9 0 = f 0 + s0 * m00 := by subst e9 e8 e7 e6 e5 e4 e3 e2 e1; rfl
  have g1 : q9 1 = f 1 + s0 * m01 + s1 * m10 := by subst e9 e8 e7 e6 e5 e4 e3 e2 e1; rfl
  have g2 : q9 2 = f 2 + s0 * m02 + s1 * m11 + s2 * m20 := by subst e9 e8 e7 e6 e5 e4 e3 e2 e1; rfl
  have g3 : q9 3 = f 3 + s1 * m12 + s2 * m21 := by subst e9 e8 e7 e6 e5 e4 e3 e2 e1; rfl
  have g4 : q9 4 = f 4 + s2 * m22 := by subst e9 e8 e7 e6 e5 e4 e3 e2 e1; rfl
  clear e1 e2 e3 e4 e5 e6 e7 e8 e9
  have a0 := ec_am rfl hs0 h00 (hB 0 (by omega)) (by omega) lz.1 lw.1
  have a1 := ec_am rfl hs0 h01 (hB 1 (by omega)) (by omega) lz.1 lw.2.1
  have a1' := ec_am a1.1 hs1 h10 a1.2 (by omega) lz.2.1 lw.1
  have a2 := ec_am rfl hs0 h02 (hB 2 (by omega)) (by omega) lz.1 lw.2.2
  have a2' := ec_am a2.1 hs1 h11 a2.2 (by omega) lz.2.1 lw.2.1
  have a2'' := ec_am a2'.1 hs2 h20 a2'.2 (by omega) lz.2.2 lw.1
  have a3 := ec_am rfl hs1 h12 (hB 3 (by omega)) (by omega) lz.2.1 lw.2.2
  have a3' := ec_am a3.1 hs2 h21 a3.2 (by omega) lz.2.2 lw.2.1
  have a4 := ec_am rfl hs2 h22 (hB 4 (by omega)) (by omega) lz.2.2 lw.2.2
  rw [← g0] at a0
  rw [← g1] at a1'
  rw [← g2] at a2''
  rw [← g3] at a3'
  rw [← g4] at a4
  refine ⟨⟨a0.1, a1'.1, a2''.1, a3'.1, a4.1⟩, fun j hj => ?_⟩
  have : j = 0 ∨ j = 1 ∨ j = 2 ∨ j = 3 ∨ j = 4 := by omega
  rcases this with rfl | rfl | rfl | rfl | rfl
  · rw [a0.1]; omega
  · rw [a1'.1]; omega
  · rw [a2''.1]; omega
  · rw [a3'.1]; omega
  · rw [a4.1]; omega
def ec_S5 (f : Nat → Int64) : Int := (f 0).toInt + (f 1).toInt * 32768 + (f 2).toInt * 1073741824 + (f 3).toInt * 35184372088832 + (f 4).toInt * 1152921504606846976
theorem ec_AP_S {f g : Nat → Int64} {z w : Int} (h : ec_AP f g z w) : ec_S5 g = ec_S5 f + z * w := by
  obtain ⟨h0, h1, h2, h3, h4⟩ := h
  unfold ec_S5
  rw [h0, h1, h2, h3, h4, ec_l_mul z w]
  generalize ec_l0 z = a; generalize ec_l1 z = b; generalize ec_l2 z = c
  generalize ec_l0 w = d; generalize ec_l1 w = e; generalize ec_l2 w = f'
  grind
theorem ec_uL_s {f : Nat → Int64} {k : Nat} {x : Int64} : vp_updL f k x k = x := if_pos rfl
theorem ec_uL_n {f : Nat → Int64} {k j : Nat} {x : Int64} (h : j ≠ k) : vp_updL f k x j = f j := if_neg h
theorem ec_sos {f q1 q2 q3 q4 : Nat → Int64} {K : Int} (bK : K ≤ 900000000000) (hB : ec_BP f K) (e1 : q1 = vp_updL f 1 (f 1 + f 0 >>> ((nI 15).toInt64 &&& 63))) (e2 : q2 = vp_updL q1 2 (q1 2 + q1 1 >>> ((nI 15).toInt64 &&& 63)))
    (e3 : q3 = vp_updL q2 3 (q2 3 + q2 2 >>> ((nI 15).toInt64 &&& 63))) (e4 : q4 = vp_updL q3 4 (q3 4 + q3 3 >>> ((nI 15).toInt64 &&& 63))) :
    (q4 4 < 0 → ec_S5 f < 0) ∧ (0 < q4 4 → 0 < ec_S5 f) ∧ (¬ q4 4 < 0 → ¬ 0 < q4 4 → ((¬ (q1 0 &&& 32767 = 0 ∧ q2 1 &&& 32767 = 0 ∧ q3 2 &&& 32767 = 0 ∧ q4 3 &&& 32767 = 0) → 0 < ec_S5 f) ∧ ((q1 0 &&& 32767 = 0 ∧ q2 1 &&& 32767 = 0 ∧ q3 2 &&& 32767 = 0 ∧ q4 3 &&& 32767 = 0) → ec_S5 f = 0))) := by
  have g0 : q1 0 = f 0 := by rw [e1, ec_uL_n (by decide)]
  have g1' : q1 1 = f 1 + f 0 >>> ((nI 15).toInt64 &&& 63) := by rw [e1, ec_uL_s]
  have g1 : q2 1 = f 1 + f 0 >>> ((nI 15).toInt64 &&& 63) := by rw [e2, ec_uL_n (by decide), g1']
  have k2 : q1 2 = f 2 := by rw [e1, ec_uL_n (by decide)]
  have k3 : q2 3 = f 3 := by rw [e2, ec_uL_n (by decide), e1, ec_uL_n (by decide)]
  have k4 : q3 4 = f 4 := by rw [e3, ec_uL_n (by decide), e2, ec_uL_n (by decide), e1, ec_uL_n (by decide)]
  have g2' : q2 2 = f 2 + q2 1 >>> ((nI 15).toInt64 &&& 63) := by rw [g1, ← g1', ← k2, e2, ec_uL_s]
  have j2 : q3 2 = q2 2 := by rw [e3, ec_uL_n (by decide)]
  have g2 : q3 2 = f 2 + q2 1 >>> ((nI 15).toInt64 &&& 63) := by rw [j2, g2']
  have g3' : q3 3 = f 3 + q3 2 >>> ((nI 15).toInt64 &&& 63) := by rw [j2, ← k3, e3, ec_uL_s]
  have j3 : q4 3 = q3 3 := by rw [e4, ec_uL_n (by decide)]
  have g3 : q4 3 = f 3 + q3 2 >>> ((nI 15).toInt64 &&& 63) := by rw [j3, g3']
  have g4 : q4 4 = f 4 + q4 3 >>> ((nI 15).toInt64 &&& 63) := by rw [j3, ← k4, e4, ec_uL_s]
  clear e1 e2 e3 e4
  have sh : ∀ x : Int64, (x >>> ((nI 15).toInt64 &&& 63)).toInt = x.toInt / 32768 := fun x => Jvm.Kit.i64_shr x _ (k := 15) (by decide)
  have mk : ∀ x : Int64, x &&& 32767 = 0 ↔ x.toInt % 32768 = 0 := by
    intro x
    rw [ec_eq0, Jvm.Kit.i64_mask x 32767 (k := 15) (by decide) (by decide)]; exact Iff.rfl
  have ad : ∀ (a b : Int64), (-1000000000000 ≤ a.toInt ∧ a.toInt ≤ 1000000000000) → (-1000000000000 ≤ b.toInt ∧ b.toInt ≤ 1000000000000) → (a + b >>> ((nI 15).toInt64 &&& 63)).toInt = a.toInt + b.toInt / 32768 := by
    intro a b ha hb
    rw [Jvm.Kit.i64_add (by rw [sh]; omega) (by rw [sh]; omega), sh]
  have b0 := hB 0 (by omega)
  have b1 := hB 1 (by omega)
  have b2 := hB 2 (by omega)
  have b3 := hB 3 (by omega)
  have b4 := hB 4 (by omega)
  have t1 : (q2 1).toInt = (f 1).toInt + (f 0).toInt / 32768 := by rw [g1]; exact ad _ _ (by omega) (by omega)
  have t2 : (q3 2).toInt = (f 2).toInt + (q2 1).toInt / 32768 := by rw [g2]; exact ad _ _ (by omega) (by omega)
  have t3 : (q4 3).toInt = (f 3).toInt + (q3 2).toInt / 32768 := by rw [g3]; exact ad _ _ (by omega) (by omega)
  have t4 : (q4 4).toInt = (f 4).toInt + (q4 3).toInt / 32768 := by rw [g4]; exact ad _ _ (by omega) (by omega)
  have C := ec_carry (S := ec_S5 f) rfl t1 t2 t3 t4
  rw [g0, mk, mk, mk, mk, Int64.lt_iff_toInt_lt, Int64.lt_iff_toInt_lt, ec_L0]
  refine ⟨C.1, C.2.1, fun h1 h2 => ?_⟩
  have C3 := C.2.2 (by omega)
  exact ⟨C3.1.mpr, C3.2.mpr⟩
theorem ec_isubL {a b : Int32} (ha : ec_near a) (hb : ec_near b) : (a - b).toInt64.toInt = a.toInt - b.toInt := by
  unfold ec_near at *
  rw [Jvm.Kit.i64_of_i32]
  exact Jvm.Kit.i32_sub (by omega) (by omega)
theorem ec_dotM {a b c d : Int64} {A B C D : Int} (ha : a.toInt = A) (hb : b.toInt = B) (hc : c.toInt = C) (hd : d.toInt = D) (bA : -2000000 ≤ A ∧ A ≤ 2000000) (bB : -2000000 ≤ B ∧ B ≤ 2000000) (bC : -2000000 ≤ C ∧ C ≤ 2000000) (bD : -2000000 ≤ D ∧ D ≤ 2000000) :
    (a * b - c * d).toInt = A * B - C * D ∧ -8796093022208 ≤ (a * b - c * d).toInt ∧ (a * b - c * d).toInt ≤ 8796093022208 := by
  have h := ec_crossD (a := a) (b := b) (c := c) (d := d) (by omega) (by omega) (by omega) (by omega)
  rw [ha, hb, hc, hd] at h
  have p1 := ec_prod (A := 2000000) (B := 2000000) bA.1 bA.2 bB.1 bB.2
  have p2 := ec_prod (A := 2000000) (B := 2000000) bC.1 bC.2 bD.1 bD.2
  exact ⟨h, by omega, by omega⟩
theorem ec_dotQ {a b : Int64} {A B : Int} (ha : a.toInt = A) (hb : b.toInt = B) (bA : -2000000 ≤ A ∧ A ≤ 2000000) (bB : -2000000 ≤ B ∧ B ≤ 2000000) :
    (a * a + b * b).toInt = A * A + B * B ∧ -8796093022208 ≤ (a * a + b * b).toInt ∧ (a * a + b * b).toInt ≤ 8796093022208 := by
  have h := ec_dotD (a := a) (b := a) (c := b) (d := b) (by omega) (by omega) (by omega) (by omega)
  rw [ha, hb] at h
  exact ⟨h.1, by omega, by omega⟩
def ec_z5 (f : Nat → Int64) : Nat → Int64 := vp_updL (vp_updL (vp_updL (vp_updL (vp_updL f 0 0) 1 0) 2 0) 3 0) 4 0
theorem ec_z5_0 (f : Nat → Int64) : ∀ j, j < 5 → ec_z5 f j = 0 := by
  intro j hj
  have : j = 0 ∨ j = 1 ∨ j = 2 ∨ j = 3 ∨ j = 4 := by omega
  rcases this with rfl | rfl | rfl | rfl | rfl <;> rfl
theorem ec_z5_B (f : Nat → Int64) : ec_BP (ec_z5 f) 0 := fun j hj => by rw [ec_z5_0 f j hj, ec_L0]; omega
theorem ec_z5_S (f : Nat → Int64) : ec_S5 (ec_z5 f) = 0 := by
  unfold ec_S5
  rw [ec_z5_0 f 0 (by omega), ec_z5_0 f 1 (by omega), ec_z5_0 f 2 (by omega), ec_z5_0 f 3 (by omega), ec_z5_0 f 4 (by omega), ec_L0]
  omega
theorem ec_circR (px py : Nat → Int32) (i j k m : Nat) :
    (((px i).toInt - (px m).toInt) * ((px i).toInt - (px m).toInt) + ((py i).toInt - (py m).toInt) * ((py i).toInt - (py m).toInt)) * (((px j).toInt - (px m).toInt) * ((py k).toInt - (py m).toInt) - ((py j).toInt - (py m).toInt) * ((px k).toInt - (px m).toInt)) +
    (((px j).toInt - (px m).toInt) * ((px j).toInt - (px m).toInt) + ((py j).toInt - (py m).toInt) * ((py j).toInt - (py m).toInt)) * (((px k).toInt - (px m).toInt) * ((py i).toInt - (py m).toInt) - ((py k).toInt - (py m).toInt) * ((px i).toInt - (px m).toInt)) +
    (((px k).toInt - (px m).toInt) * ((px k).toInt - (px m).toInt) + ((py k).toInt - (py m).toInt) * ((py k).toInt - (py m).toInt)) * (((px i).toInt - (px m).toInt) * ((py j).toInt - (py m).toInt) - ((py i).toInt - (py m).toInt) * ((px j).toInt - (px m).toInt)) = ec_circ px py i j k m := by
  unfold ec_circ
  rw [ge_circ_eq]
  grind
theorem ec_near_sub {a b : Int32} (ha : ec_near a) (hb : ec_near b) : -2000000 ≤ a.toInt - b.toInt ∧ a.toInt - b.toInt ≤ 2000000 := by unfold ec_near at *; omega
section
variable {x : Int64} {S : Int} {C : Prop}
theorem ec_sos_m (L : (x < 0 → S < 0) ∧ (0 < x → 0 < S) ∧ (¬ x < 0 → ¬ 0 < x → ((¬ C → 0 < S) ∧ (C → S = 0)))) (h : ¬ 0 ≤ x) : (-1 : Int32) = ec_sgn S := by
  rw [Int64.le_iff_toInt_le, ec_L0] at h
  rw [ec_sgn_neg (L.1 (by rw [Int64.lt_iff_toInt_lt, ec_L0]; omega))]
theorem ec_sos_p (L : (x < 0 → S < 0) ∧ (0 < x → 0 < S) ∧ (¬ x < 0 → ¬ 0 < x → ((¬ C → 0 < S) ∧ (C → S = 0)))) (h : 0 < x) : nI 1 = ec_sgn S := by
  rw [ec_sgn_pos (L.2.1 h)]; decide
theorem ec_sos_s (L : (x < 0 → S < 0) ∧ (0 < x → 0 < S) ∧ (¬ x < 0 → ¬ 0 < x → ((¬ C → 0 < S) ∧ (C → S = 0)))) (h : 0 ≤ x) (h2 : ¬ 0 < x) (hc : ¬ C) : nI 1 = ec_sgn S := by
  rw [Int64.le_iff_toInt_le, ec_L0] at h
  rw [ec_sgn_pos ((L.2.2 (by rw [Int64.lt_iff_toInt_lt, ec_L0]; omega) h2).1 hc)]; decide
theorem ec_sos_z (L : (x < 0 → S < 0) ∧ (0 < x → 0 < S) ∧ (¬ x < 0 → ¬ 0 < x → ((¬ C → 0 < S) ∧ (C → S = 0)))) (h : 0 ≤ x) (h2 : ¬ 0 < x) (hc : C) : nI 0 = ec_sgn S := by
  rw [Int64.le_iff_toInt_le, ec_L0] at h
  rw [(L.2.2 (by rw [Int64.lt_iff_toInt_lt, ec_L0]; omega) h2).2 hc]; decide
end
