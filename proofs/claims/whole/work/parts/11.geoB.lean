theorem ge_nonneg_mul_of {a b : Int} (h : 0 ≤ a) (k : 0 ≤ b) : 0 ≤ a * b := Int.mul_nonneg h k

/-- The turn from a through v towards b is no turn, and a line through both sees v between. -/
theorem ge_btw_of_side {u v s : ge_Pt} (L : ge_Pt → Int) (α β γ : Int)
    (hL : ∀ z : ge_Pt, L z = α * z.x + β * z.y + γ)
    (h0 : ge_ori u v s = 0) (hu : L v < L u) (h1 : L v ≤ L s) (h2 : L s ≤ L u) : ge_Btw u v s := by
  refine ⟨h0, ?_⟩
  -- (L u - L v) * (s - u) = (L u - L s) * (v - u)
  have ex : (L u - L v) * (s.x - u.x) = (L u - L s) * (v.x - u.x) := by
    simp only [hL]
    unfold ge_ori at h0
    grind
  have ey : (L u - L v) * (s.y - u.y) = (L u - L s) * (v.y - u.y) := by
    simp only [hL]
    unfold ge_ori at h0
    grind
  have hp : 0 < L u - L v := by omega
  have key : ∀ a b c : Int, (L u - L v) * (c - a) = (L u - L s) * (b - a) → min a b ≤ c ∧ c ≤ max a b := by
    intro a b c e
    have e2 : (L u - L v) * (b - c) = (L s - L v) * (b - a) := by grind
    rcases Int.le_total a b with hab | hab
    · have k1 := ge_nonneg_of_mul hp (by rw [e]; exact Int.mul_nonneg (by omega) (by omega) : 0 ≤ (L u - L v) * (c - a))
      have k2 := ge_nonneg_of_mul hp (by rw [e2]; exact Int.mul_nonneg (by omega) (by omega) : 0 ≤ (L u - L v) * (b - c))
      omega
    · have k1 := ge_nonneg_of_mul hp (b := a - c) (by
        have := Int.mul_nonneg (a := L u - L s) (b := a - b) (by omega) (by omega)
        grind)
      have k2 := ge_nonneg_of_mul hp (b := c - b) (by
        have := Int.mul_nonneg (a := L s - L v) (b := a - b) (by omega) (by omega)
        grind)
      omega
  have kx := key _ _ _ ex
  have ky := key _ _ _ ey
  omega

theorem ge_ori_lin (p q z : ge_Pt) : ge_ori p q z = (p.y - q.y) * z.x + (q.x - p.x) * z.y + (p.x * q.y - p.y * q.x) := by
  unfold ge_ori; grind

theorem ge_btw_ori {u v s p q : ge_Pt} (h0 : ge_ori u v s = 0) (hu : ge_ori p q v < ge_ori p q u)
    (h1 : ge_ori p q v ≤ ge_ori p q s) (h2 : ge_ori p q s ≤ ge_ori p q u) : ge_Btw u v s :=
  ge_btw_of_side (fun z => ge_ori p q z) _ _ _ (fun z => ge_ori_lin p q z) h0 hu h1 h2

theorem ge_Btw_comm {a b v : ge_Pt} (h : ge_Btw a b v) : ge_Btw b a v := by
  unfold ge_Btw at *
  have := ge_swp a b v
  have := Int.min_comm a.x b.x
  have := Int.max_comm a.x b.x
  have := Int.min_comm a.y b.y
  have := Int.max_comm a.y b.y
  grind

/-- u v runs over p q into the triangle q p s, past s on one side: it leaves over p s. -/
theorem ge_exit_left {p q s u v : ge_Pt} (hx : ge_Xs p q u v) (hs : 0 < ge_ori q p s) (hl : 0 < ge_ori u v s)
    (hin : ¬ (0 < ge_ori q p v ∧ 0 < ge_ori p s v ∧ 0 < ge_ori s q v)) (hb : ¬ ge_Btw p s v) : ge_Xs p s u v := by
  obtain ⟨h3, h4, h1, h2⟩ := hx
  have e0 := ge_swp p q s
  have e1 := ge_plu p q s u v
  have e2 := ge_four p s u v
  have e3 := ge_rot p u v
  have e4 := ge_rot s u v
  have h5 : ge_ori p q s < 0 := by omega
  have hu : 0 < ge_ori p s u := by
    apply Classical.byContradiction; intro h
    have k1 := ge_mnn h5 h1
    have h6 : ge_ori p s v < 0 := by grind
    have k3 := ge_mpn h3 h6
    have k4 := Int.mul_nonneg_of_nonpos_of_nonpos (Int.le_of_lt h4) (Int.not_lt.mp h)
    grind
  refine ⟨hu, ?_, h1, hl⟩
  apply Classical.byContradiction; intro h
  rcases Int.lt_or_eq_of_le (Int.not_lt.mp h) with h | h
  · apply hin
    refine ⟨by have := ge_swp p q v; omega, h, ?_⟩
    have e : ge_ori s q v * ge_ori u v p = ge_ori u v s * ge_ori p q v - ge_ori p s v * ge_ori u v q := by unfold ge_ori; grind
    have k1 := ge_mpp h h2
    have k2 := ge_mpn hl h4
    have := ge_neg_of_mul (a := - ge_ori u v p) (b := - ge_ori s q v) (by omega) (by grind)
    omega
  · apply hb
    exact ge_btw_ori (p := v) (q := u) (u := p) (v := s) h.symm
      (by have := ge_swp u v s; have := ge_swp u v p; omega)
      (by rw [ge_ori_aba v u]; have := ge_swp u v s; omega)
      (by rw [ge_ori_aba v u]; have := ge_swp u v p; omega)

theorem ge_exit_right {p q s u v : ge_Pt} (hx : ge_Xs p q u v) (hs : 0 < ge_ori q p s) (hl : ge_ori u v s < 0)
    (hin : ¬ (0 < ge_ori q p v ∧ 0 < ge_ori p s v ∧ 0 < ge_ori s q v)) (hb : ¬ ge_Btw s q v) : ge_Xs s q u v := by
  -- the mirror image of ge_exit_left
  let m : ge_Pt → ge_Pt := fun z => ge_mkp (-z.x) z.y z.h
  have hm : ∀ a b c, ge_ori (m a) (m b) (m c) = - ge_ori a b c := by intro a b c; simp only [m]; unfold ge_ori; simp only [ge_mkp_x, ge_mkp_y]; grind
  have hx' : ge_Xs (m q) (m p) (m u) (m v) := by
    unfold ge_Xs at *; simp only [hm]
    have := ge_swp p q u; have := ge_swp p q v
    omega
  have := ge_exit_left (p := m q) (q := m p) (s := m s) hx' (by rw [hm]; have := ge_swp p q s; have := ge_swp q p s; omega)
    (by rw [hm]; omega)
    (by
      intro hh
      simp only [hm] at hh
      apply hin
      have := ge_swp p q v; have := ge_swp q s v; have := ge_swp s p v
      omega)
    (by
      intro hh
      apply hb
      unfold ge_Btw at hh ⊢
      simp only [hm] at hh
      simp only [m, ge_mkp_x, ge_mkp_y] at hh
      have := ge_swp q s v
      omega)
  unfold ge_Xs at *
  simp only [hm] at this
  have := ge_swp q s u; have := ge_swp q s v
  omega
