/-- Signs alone, of what ge_near_core needs. -/
theorem ge_near_signs {lx ly g1x g1y g2x g2y g3u g3v g1u g1v G1 G2 xyu xyv xya xyc g2a g2c g3x : Int}
    (hlx : 0 < lx) (hly : 0 < ly) (hg1u : 0 < g1u) (hg1v : g1v < 0) (hg3u : g3u ≤ 0) (hg3v : 0 < g3v) (hg3x : 0 < g3x)
    (hG1 : 0 < G1) (hG2 : 0 < G2) (hg2a : 0 < g2a) (hg2c : g2c < 0) (hxya : 0 < xya)
    (eG1 : lx * g1x + ly * g1y = G1) (eG2 : lx * g2x + ly * g2y = G2)
    (eR1 : xyv * g1u - xyu * g1v = g2y * g1x - g2x * g1y)
    (eR2 : ly * (xyv * g3u - xyu * g3v) = G2 * g3x)
    (eD : xyv - xyu = g2y - g2x)
    (eB : xya * g2c - xyc * g2a = g1y * g2x - g1x * g2y) (hx0 : g1x ≠ 0 ∨ g2x < 0) :
    (0 < g1x ∧ 0 ≤ g2x) ∨ (g2x < 0 ∧ 0 < g2y ∧ xyu < 0 ∧ 0 < xyv) ∨
    (g1x < 0 ∧ 0 < g1y ∧ xyc < 0 ∧ 0 < xya * g2c - xyc * g2a) := by
  have eQ : ly * (g2y * g1x - g2x * g1y) = G2 * g1x - g2x * G1 := by
    rw [← eG1, ← eG2]; grind
  by_cases h2 : g2x < 0
  · -- beyond u v
    have y2 : 0 < g2y := by
      apply Classical.byContradiction; intro hn
      have m1 := ge_mpn hlx h2
      have m2 := Int.mul_nonneg (show 0 ≤ ly by omega) (show 0 ≤ -g2y by omega)
      rw [Int.mul_neg] at m2
      omega
    by_cases hQ : 0 ≤ G2 * g1x - g2x * G1
    · right; left
      have q1 : 0 ≤ g2y * g1x - g2x * g1y := ge_nonneg_of_mul hly (by omega)
      have q2 : 0 < xyv * g3u - xyu * g3v := ge_pos_of_mul hly (by rw [eR2]; exact ge_mpp hG2 hg3x)
      refine ⟨h2, y2, ?_, ?_⟩
      · apply Classical.byContradiction; intro hn
        have hv : 0 < xyv := by omega
        have m1 := Int.mul_nonneg (show 0 ≤ xyv by omega) (show 0 ≤ -g3u by omega)
        have m2 := Int.mul_nonneg (show 0 ≤ xyu by omega) (show 0 ≤ g3v by omega)
        rw [Int.mul_neg] at m1
        omega
      · apply Classical.byContradiction; intro hn
        have hu : xyu < 0 := by omega
        have m1 := Int.mul_nonneg (show 0 ≤ -xyv by omega) (show 0 ≤ g1u by omega)
        have m2 := ge_mnn hu hg1v
        rw [Int.neg_mul] at m1
        omega
    · right; right
      have m0 := ge_mnp h2 hG1
      have hx : g1x < 0 := by
        apply Classical.byContradiction; intro hn
        have := Int.mul_nonneg (show 0 ≤ G2 by omega) (show 0 ≤ g1x by omega)
        omega
      have hy : 0 < g1y := by
        apply Classical.byContradiction; intro hn
        have m1 := ge_mpn hlx hx
        have m2 := Int.mul_nonneg (show 0 ≤ ly by omega) (show 0 ≤ -g1y by omega)
        rw [Int.mul_neg] at m2
        omega
      have hB : 0 < xya * g2c - xyc * g2a := by
        rw [eB]
        apply ge_pos_of_mul hly
        have : ly * (g1y * g2x - g1x * g2y) = -(ly * (g2y * g1x - g2x * g1y)) := by grind
        omega
      refine ⟨hx, hy, ?_, hB⟩
      apply Classical.byContradiction; intro hn
      have m1 := ge_mpn hxya hg2c
      have m2 := Int.mul_nonneg (show 0 ≤ xyc by omega) (show 0 ≤ g2a by omega)
      omega
  · by_cases h1 : 0 < g1x
    · left; exact ⟨h1, by omega⟩
    · right; right
      have hx : g1x < 0 := by omega
      have hy : 0 < g1y := by
        apply Classical.byContradiction; intro hn
        have m1 := ge_mpn hlx hx
        have m2 := Int.mul_nonneg (show 0 ≤ ly by omega) (show 0 ≤ -g1y by omega)
        rw [Int.mul_neg] at m2
        omega
      have hB : 0 < xya * g2c - xyc * g2a := by
        rw [eB]
        apply ge_pos_of_mul hly
        have : ly * (g1y * g2x - g1x * g2y) = -(ly * (g2y * g1x - g2x * g1y)) := by grind
        have m1 := ge_mpn hG2 hx
        have m2 := Int.mul_nonneg (show 0 ≤ g2x by omega) (show 0 ≤ G1 by omega)
        omega
      refine ⟨hx, hy, ?_, hB⟩
      apply Classical.byContradiction; intro hn
      have m1 := ge_mpn hxya hg2c
      have m2 := Int.mul_nonneg (show 0 ≤ xyc by omega) (show 0 ≤ g2a by omega)
      omega

/-- u v is the nearest side that crosses a c on its way from a; w lies before it, left of a c, right of a u.
    What x y may do that crosses a w. -/
theorem ge_near_core {a c u v w x y : ge_Pt}
    (hu : 0 < ge_ori a c u) (hv : ge_ori a c v < 0) (ha : ge_ori u v a < 0) (hc : 0 < ge_ori u v c)
    (w1 : 0 < ge_ori a c w) (w2 : ge_ori u v w ≤ 0) (w3 : 0 ≤ ge_ori a w u)
    (hx : ge_Xs a w y x) :
    (0 < ge_ori a c x ∧ ge_ori u v x ≤ 0) ∨ ge_Cr x y u v ∨
    (ge_ori a c x < 0 ∧ 0 < ge_ori a c y ∧ 0 < ge_ori y x c ∧ ge_ori y x a < 0 ∧
      (-(ge_ori y x a)) * ge_ori u v c < ge_ori y x c * (-(ge_ori u v a))) ∨ (ge_Btw a c x ∧ ge_ori u v x ≤ 0) := by
  obtain ⟨y1, x1, xa, xw⟩ := hx
  have s1 := ge_swp x y a; have s2 := ge_swp x y w; have s3 := ge_swp x y c
  have e0 := ge_swp2 a c w
  -- v lies to the right of a w
  have eq : ge_ori a c u * (-(ge_ori a w v)) - ge_ori a c v * (-(ge_ori a w u)) = ge_ori u v a * ge_ori a w c := by unfold ge_ori; grind
  have g3c : ge_ori a w c < 0 := by omega
  have m0 := ge_mnn ha g3c
  have m00 := Int.mul_nonneg (show 0 ≤ -(ge_ori a c v) by omega) w3
  have g3v : 0 < -(ge_ori a w v) := by
    apply ge_pos_of_mul hu
    rw [Int.neg_mul] at m00
    rw [Int.mul_neg (ge_ori a c v)] at eq
    omega
  have eG1 : ge_ori a w y * ge_ori a c x + (-(ge_ori a w x)) * ge_ori a c y = ge_ori x y a * ge_ori a c w := by unfold ge_ori; grind
  have eG2 : ge_ori a w y * (-(ge_ori u v x)) + (-(ge_ori a w x)) * (-(ge_ori u v y)) =
      ge_ori x y w * ge_ori u v a - ge_ori x y a * ge_ori u v w := by unfold ge_ori; grind
  have eR1 : ge_ori x y v * ge_ori a c u - ge_ori x y u * ge_ori a c v =
      (-(ge_ori u v y)) * ge_ori a c x - (-(ge_ori u v x)) * ge_ori a c y := by unfold ge_ori; grind
  have eR2 : (-(ge_ori a w x)) * (ge_ori x y v * (-(ge_ori a w u)) - ge_ori x y u * (-(ge_ori a w v))) =
      (ge_ori x y w * ge_ori u v a - ge_ori x y a * ge_ori u v w) * (-(ge_ori a w x)) := by
    unfold ge_ori; grind
  have eD : ge_ori x y v - ge_ori x y u = (-(ge_ori u v y)) - (-(ge_ori u v x)) := by unfold ge_ori; grind
  have eB : ge_ori x y a * (-(ge_ori u v c)) - ge_ori x y c * (-(ge_ori u v a)) =
      ge_ori a c y * (-(ge_ori u v x)) - ge_ori a c x * (-(ge_ori u v y)) := by unfold ge_ori; grind
  by_cases hz : ge_ori a c x = 0 ∧ ¬ ge_ori u v x > 0
  · right; right; right
    have e1 := ge_rot2 a c x
    have e2 := ge_swp2 a c x
    have e3 := ge_ori_aba a w
    -- on the line a c, before u v, on the side of c
    have k0 := ge_swp2 a w c
    have f1 : ge_ori u v a * ge_ori a w x - 0 = ge_ori u v a * ge_ori a w x := by omega
    have hne : ge_ori u v a < ge_ori u v c := by omega
    -- btw by the function ge_ori u v from c down to a
    have hlo : ge_ori u v a ≤ ge_ori u v x := by
      -- (ge_ori u v x - ge_ori u v a) * ge_ori a w c = (ge_ori u v c - ge_ori u v a) * ge_ori a w x, both ge_ori negative
      have e : (ge_ori u v x - ge_ori u v a) * (-(ge_ori a w c)) = (ge_ori u v c - ge_ori u v a) * (-(ge_ori a w x))
          + ge_ori a c x * ((v.x - u.x) * (w.y - a.y) - (v.y - u.y) * (w.x - a.x)) := by unfold ge_ori; grind
      rw [hz.1, Int.zero_mul, Int.add_zero] at e
      have m := ge_mpp (show 0 < ge_ori u v c - ge_ori u v a by omega) (show 0 < -(ge_ori a w x) by omega)
      have := ge_pos_of_mul (a := -(ge_ori a w c)) (b := ge_ori u v x - ge_ori u v a) (by omega) (by rw [Int.mul_comm]; omega)
      omega
    exact ⟨ge_Btw_comm (ge_btw_ori (p := u) (q := v) (u := c) (v := a) (s := x) (by have := ge_rot2 a x c; omega) hne hlo (by omega)), by omega⟩
  · have := ge_near_signs (lx := ge_ori a w y) (ly := -(ge_ori a w x)) (g3x := -(ge_ori a w x)) (g3u := -(ge_ori a w u))
      y1 (by omega) hu hv (by omega) g3v (by omega)
      (ge_mpp (show 0 < ge_ori x y a by omega) w1)
      (by
        have m1 := ge_mnn (show ge_ori x y w < 0 by omega) ha
        have m2 := Int.mul_nonneg (show 0 ≤ ge_ori x y a by omega) (show 0 ≤ -(ge_ori u v w) by omega)
        rw [Int.mul_neg] at m2
        omega)
      (show 0 < -(ge_ori u v a) by omega) (show -(ge_ori u v c) < 0 by omega) (show 0 < ge_ori x y a by omega)
      eG1 eG2 eR1 eR2 eD eB (by omega)
    rcases this with h | h | h
    · left; omega
    · right; left
      exact ⟨ge_mul_neg_iff.mpr (by omega), ge_mul_neg_iff.mpr (by omega)⟩
    · right; right; left
      refine ⟨h.1, h.2.1, by omega, by omega, ?_⟩
      have h4 := h.2.2.2
      rw [s1, s3]
      have e1 : ge_ori x y a * (-(ge_ori u v c)) = -(-(-(ge_ori x y a)) * ge_ori u v c) := by grind
      have e2 : ge_ori x y c * (-(ge_ori u v a)) = -((-(ge_ori x y c)) * (-(ge_ori u v a))) := by grind
      omega
