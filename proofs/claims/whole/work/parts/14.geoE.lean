variable {n : Nat} {P : Nat → ge_Pt} {T : Nat → Nat → Nat → Prop} {L : Nat → Nat → Prop}

/-- u v runs over p q into the triangle q p s: it ends in it, meets s, or leaves over another side. -/
theorem ge_exit3 {p q s u v : ge_Pt} (hx : ge_Xs p q u v) (hs : 0 < ge_ori q p s)
    (hin : ¬ (0 < ge_ori q p v ∧ 0 < ge_ori p s v ∧ 0 < ge_ori s q v)) (hb1 : ¬ ge_Btw p s v) (hb2 : ¬ ge_Btw s q v)
    (hb3 : ¬ ge_Btw u v s) : ge_Xs p s u v ∨ ge_Xs s q u v := by
  rcases Int.lt_trichotomy (ge_ori u v s) 0 with h | h | h
  · exact Or.inr (ge_exit_right hx hs h hin hb2)
  · exfalso
    obtain ⟨x1, x2, x3, x4⟩ := hx
    have hss : ge_ori p q s < 0 := by have := ge_swp p q s; omega
    by_cases hc : ge_ori p q v ≤ ge_ori p q s
    · exact hb3 (ge_btw_ori h (by omega) hc (by omega))
    · apply hin
      have i1 : ge_ori p s v * (ge_ori p q u - ge_ori p q v) =
          (-(ge_ori u v p)) * (ge_ori p q v - ge_ori p q s) + ge_ori u v s * ge_ori p q v := by unfold ge_ori; grind
      have i2 : ge_ori s q v * (ge_ori p q u - ge_ori p q v) =
          (ge_ori u v q) * (ge_ori p q v - ge_ori p q s) - ge_ori u v s * ge_ori p q v := by unfold ge_ori; grind
      rw [h] at i1 i2
      have k1 := ge_mpp (show 0 < -(ge_ori u v p) by omega) (show 0 < ge_ori p q v - ge_ori p q s by omega)
      have k2 := ge_mpp x4 (show 0 < ge_ori p q v - ge_ori p q s by omega)
      have pp : 0 < ge_ori p q u - ge_ori p q v := by omega
      refine ⟨by have := ge_swp p q v; omega, ge_pos_of_mul pp (by grind), ge_pos_of_mul pp (by grind)⟩
  · exact Or.inl (ge_exit_left hx hs h hin hb1)

/-- Heights over the points so that no lifted point lies in the hull of others, nor above it. -/
def ge_Lift (n : Nat) (P : Nat → ge_Pt) : Prop :=
  ∀ i j k l m, i < n → j < n → k < n → l < n → m < n → i ≠ j → i ≠ k → i ≠ l → i ≠ m →
  ∀ s t u w : Int, 0 ≤ s → 0 ≤ t → 0 ≤ u → 0 ≤ w → 0 < s + t + u + w →
  (s + t + u + w) * (P i).x = s * (P j).x + t * (P k).x + u * (P l).x + w * (P m).x →
  (s + t + u + w) * (P i).y = s * (P j).y + t * (P k).y + u * (P l).y + w * (P m).y →
  (s + t + u + w) * (P i).h < s * (P j).h + t * (P k).h + u * (P l).h + w * (P m).h

/-- The ge_four corners of a bad side form a convex figure. -/
theorem ge_convex_of_bad (lf : ge_Lift n P) {a b c d : Nat} (ha : a < n) (hb : b < n) (hc : c < n) (hd : d < n)
    (h1 : 0 < ge_ori (P a) (P b) (P c)) (h2 : 0 < ge_ori (P b) (P a) (P d))
    (hD : 0 ≤ ge_Dd (P a) (P b) (P c) (P d)) :
    0 < ge_ori (P a) (P d) (P c) ∧ 0 < ge_ori (P d) (P b) (P c) := by
  have nab : a ≠ b := by intro e; subst e; rw [ge_ori_aab] at h1; omega
  have nac : a ≠ c := by intro e; subst e; rw [ge_ori_aba] at h1; omega
  have nbc : b ≠ c := by intro e; subst e; rw [ge_ori_abb] at h1; omega
  have nad : a ≠ d := by intro e; subst e; rw [ge_ori_abb] at h2; omega
  have nbd : b ≠ d := by intro e; subst e; rw [ge_ori_aba] at h2; omega
  have s1 := ge_swp (P a) (P b) (P d)
  have r1 : ge_ori (P a) (P d) (P c) = ge_ori (P c) (P a) (P d) := by unfold ge_ori; grind
  have r2 : ge_ori (P d) (P b) (P c) = ge_ori (P b) (P c) (P d) := by unfold ge_ori; grind
  have sum : ge_ori (P b) (P c) (P d) + ge_ori (P c) (P a) (P d) + ge_ori (P a) (P b) (P d) = ge_ori (P a) (P b) (P c) := by
    unfold ge_ori; grind
  unfold ge_Dd at hD
  constructor
  · apply Classical.byContradiction; intro hn
    rw [r1] at hn
    have := lf a b c d d ha hb hc hd hd nab nac nad nad (-(ge_ori (P c) (P a) (P d))) (-(ge_ori (P a) (P b) (P d)))
      (ge_ori (P a) (P b) (P c)) 0 (by omega) (by omega) (by omega) (by omega) (by omega)
      (by unfold ge_ori; grind) (by unfold ge_ori; grind)
    have e : -(ge_ori (P c) (P a) (P d)) + -(ge_ori (P a) (P b) (P d)) + ge_ori (P a) (P b) (P c) + 0 = ge_ori (P b) (P c) (P d) := by
      omega
    rw [e] at this
    grind
  · apply Classical.byContradiction; intro hn
    rw [r2] at hn
    have := lf b a c d d hb ha hc hd hd nab.symm nbc nbd nbd (-(ge_ori (P b) (P c) (P d))) (-(ge_ori (P a) (P b) (P d)))
      (ge_ori (P a) (P b) (P c)) 0 (by omega) (by omega) (by omega) (by omega) (by omega)
      (by unfold ge_ori; grind) (by unfold ge_ori; grind)
    have e : -(ge_ori (P b) (P c) (P d)) + -(ge_ori (P a) (P b) (P d)) + ge_ori (P a) (P b) (P c) + 0 = ge_ori (P c) (P a) (P d) := by
      omega
    rw [e] at this
    grind

theorem ge_lin_absurd {D Y1 Y2 X1 X2 a b c d v : Int} (b1 : D = - Y2 - Y1 + X2 + X1)
    (bh : D * v = - Y2 * a - Y1 * b + X2 * c + X1 * d) :
    (D + Y1 + -X2 + -X1) * a = D * v + Y1 * b + -X2 * c + -X1 * d ∧
    (D + Y2 + -X2 + -X1) * b = D * v + Y2 * a + -X2 * c + -X1 * d ∧
    (D + Y2 + Y1 + -X1) * c = D * v + Y2 * a + Y1 * b + -X1 * d ∧
    (D + Y2 + Y1 + -X2) * d = D * v + Y2 * a + Y1 * b + -X2 * c := by
  subst b1
  refine ⟨?_, ?_, ?_, ?_⟩ <;> grind

/-- Per vertex: after a flip of a bad side it lies in no more circles than before. -/
theorem ge_flip_count (lf : ge_Lift n P) {a b c d v : Nat} (ha : a < n) (hb : b < n) (hc : c < n) (hd : d < n) (hv : v < n)
    (dab : a ≠ b) (dac : a ≠ c) (dad : a ≠ d) (dbc : b ≠ c) (dbd : b ≠ d) (dcd : c ≠ d)
    (hD : 0 < ge_Dd (P a) (P b) (P c) (P d)) :
    (0 < ge_Dd (P a) (P d) (P c) (P v) → 0 < ge_Dd (P a) (P b) (P c) (P v) ∨ 0 < ge_Dd (P b) (P a) (P d) (P v)) ∧
    (0 < ge_Dd (P d) (P b) (P c) (P v) → 0 < ge_Dd (P a) (P b) (P c) (P v) ∨ 0 < ge_Dd (P b) (P a) (P d) (P v)) ∧
    (0 < ge_Dd (P a) (P d) (P c) (P v) → 0 < ge_Dd (P d) (P b) (P c) (P v) →
      0 < ge_Dd (P a) (P b) (P c) (P v) ∧ 0 < ge_Dd (P b) (P a) (P d) (P v)) := by
  have b1 : ge_Dd (P a) (P b) (P c) (P d) = - ge_Dd (P d) (P b) (P c) (P v) - ge_Dd (P a) (P d) (P c) (P v)
      + ge_Dd (P b) (P a) (P d) (P v) + ge_Dd (P a) (P b) (P c) (P v) := by unfold ge_Dd ge_ori; grind
  have bx : ge_Dd (P a) (P b) (P c) (P d) * (P v).x = - ge_Dd (P d) (P b) (P c) (P v) * (P a).x - ge_Dd (P a) (P d) (P c) (P v) * (P b).x
      + ge_Dd (P b) (P a) (P d) (P v) * (P c).x + ge_Dd (P a) (P b) (P c) (P v) * (P d).x := by unfold ge_Dd ge_ori; grind
  have bY : ge_Dd (P a) (P b) (P c) (P d) * (P v).y = - ge_Dd (P d) (P b) (P c) (P v) * (P a).y - ge_Dd (P a) (P d) (P c) (P v) * (P b).y
      + ge_Dd (P b) (P a) (P d) (P v) * (P c).y + ge_Dd (P a) (P b) (P c) (P v) * (P d).y := by unfold ge_Dd ge_ori; grind
  have bh : ge_Dd (P a) (P b) (P c) (P d) * (P v).h = - ge_Dd (P d) (P b) (P c) (P v) * (P a).h - ge_Dd (P a) (P d) (P c) (P v) * (P b).h
      + ge_Dd (P b) (P a) (P d) (P v) * (P c).h + ge_Dd (P a) (P b) (P c) (P v) * (P d).h := by unfold ge_Dd ge_ori; grind
  have va : v = a → ge_Dd (P a) (P d) (P c) (P v) = 0 := by intro e; subst e; unfold ge_Dd ge_ori; grind
  have va2 : v = a → ge_Dd (P d) (P b) (P c) (P v) = - ge_Dd (P a) (P b) (P c) (P d) := by intro e; subst e; unfold ge_Dd ge_ori; grind
  have vb : v = b → ge_Dd (P d) (P b) (P c) (P v) = 0 := by intro e; subst e; unfold ge_Dd ge_ori; grind
  have vb2 : v = b → ge_Dd (P a) (P d) (P c) (P v) = - ge_Dd (P a) (P b) (P c) (P d) := by intro e; subst e; unfold ge_Dd ge_ori; grind
  have vc : v = c → ge_Dd (P a) (P d) (P c) (P v) = 0 ∧ ge_Dd (P d) (P b) (P c) (P v) = 0 := by
    intro e; subst e; constructor <;> (unfold ge_Dd ge_ori; grind)
  have vd : v = d → ge_Dd (P a) (P d) (P c) (P v) = 0 ∧ ge_Dd (P d) (P b) (P c) (P v) = 0 := by
    intro e; subst e; constructor <;> (unfold ge_Dd ge_ori; grind)
  revert hD b1 bx bY bh va va2 vb vb2 vc vd
  generalize ge_Dd (P a) (P b) (P c) (P d) = D
  generalize ge_Dd (P d) (P b) (P c) (P v) = Y2
  generalize ge_Dd (P a) (P d) (P c) (P v) = Y1
  generalize ge_Dd (P b) (P a) (P d) (P v) = X2
  generalize ge_Dd (P a) (P b) (P c) (P v) = X1
  intro hD b1 bx bY bh va va2 vb vb2 vc vd
  have lx := ge_lin_absurd b1 bx
  have ly := ge_lin_absurd b1 bY
  have lh := ge_lin_absurd b1 bh
  clear bx bY bh
  refine ⟨fun h1 => ?_, fun h2 => ?_, fun h1 h2 => ⟨?_, ?_⟩⟩
  · apply Classical.byContradiction; intro hn
    have hva : v ≠ a := by intro e; have := va e; omega
    have := lf a v b c d ha hv hb hc hd hva.symm dab dac dad D Y1 (-X2) (-X1) (by omega) (by omega) (by omega) (by omega) (by omega)
      lx.1 ly.1
    exact absurd lh.1 (Int.ne_of_lt this)
  · apply Classical.byContradiction; intro hn
    have hvb : v ≠ b := by intro e; have := vb e; omega
    have := lf b v a c d hb hv ha hc hd hvb.symm dab.symm dbc dbd D Y2 (-X2) (-X1) (by omega) (by omega) (by omega) (by omega) (by omega)
      lx.2.1 ly.2.1
    exact absurd lh.2.1 (Int.ne_of_lt this)
  · apply Classical.byContradiction; intro hn
    have hvc : v ≠ c := by intro e; have := vc e; omega
    have := lf c v a b d hc hv ha hb hd hvc.symm dac.symm dbc.symm dcd D Y2 Y1 (-X1) (by omega) (by omega) (by omega) (by omega) (by omega)
      lx.2.2.1 ly.2.2.1
    exact absurd lh.2.2.1 (Int.ne_of_lt this)
  · apply Classical.byContradiction; intro hn
    have hvd : v ≠ d := by intro e; have := vd e; omega
    have := lf d v a b c hd hv ha hb hc hvd.symm dad.symm dbd.symm dcd.symm D Y2 Y1 (-X2) (by omega) (by omega) (by omega) (by omega) (by omega)
      lx.2.2.2 ly.2.2.2
    exact absurd lh.2.2.2 (Int.ne_of_lt this)
