/-- A side z y that crosses a x in the triangle a b c, and runs away from b c towards y, ends in the triangle. -/
theorem ge_apex {a b c x y z : ge_Pt} (hx : ge_Xs a x z y) (hN : 0 < ge_ori a b c) (h1 : 0 < ge_ori a b x) (h2 : 0 < ge_ori c a x)
    (h3 : 0 ≤ ge_ori b c x) (hL : ge_ori b c z ≤ ge_ori b c y) (c1 : ¬ ge_Cr a b z y) (c2 : ¬ ge_Btw a b y) (c3 : ¬ ge_Btw z y b) :
    0 < ge_ori a b y ∧ 0 < ge_ori c a y ∧ ge_ori b c x < ge_ori b c y := by
  obtain ⟨z1, y1, za, zx⟩ := id hx
  have sum : ge_ori a b x + ge_ori b c x + ge_ori c a x = ge_ori a b c := by unfold ge_ori; grind
  have eL : ge_ori a x z * ge_ori b c y - ge_ori a x y * ge_ori b c z = ge_ori z y x * ge_ori a b c - ge_ori z y a * ge_ori b c x := by
    unfold ge_ori; grind
  have eW : ge_ori a x z - ge_ori a x y = ge_ori z y x - ge_ori z y a := by unfold ge_ori; grind
  have hLy : ge_ori b c x < ge_ori b c y := by
    have m1 := Int.mul_nonneg (show 0 ≤ -(ge_ori a x y) by omega) (show 0 ≤ ge_ori b c y - ge_ori b c z by omega)
    have m2 := ge_mpp zx (show 0 < ge_ori a b c - ge_ori b c x by omega)
    have : 0 < ge_ori b c y - ge_ori b c x := by
      apply ge_pos_of_mul (a := ge_ori a x z - ge_ori a x y) (by omega)
      have e1 : (ge_ori a x z - ge_ori a x y) * (ge_ori b c y - ge_ori b c x) =
        (ge_ori a x z * ge_ori b c y - ge_ori a x y * ge_ori b c z) + (-(ge_ori a x y)) * (ge_ori b c y - ge_ori b c z)
        - (ge_ori a x z - ge_ori a x y) * ge_ori b c x := by grind
      rw [e1, eL, eW]
      have e2 : ge_ori z y x * ge_ori a b c - ge_ori z y a * ge_ori b c x + -ge_ori a x y * (ge_ori b c y - ge_ori b c z) -
        (ge_ori z y x - ge_ori z y a) * ge_ori b c x = ge_ori z y x * (ge_ori a b c - ge_ori b c x) + -ge_ori a x y * (ge_ori b c y - ge_ori b c z) := by grind
      omega
    omega
  have hs : 0 < ge_ori x a b := by rw [ge_rot2 a b x]; exact h1
  by_cases hin : 0 < ge_ori x a y ∧ 0 < ge_ori a b y ∧ 0 < ge_ori b x y
  · refine ⟨hin.2.1, ?_, hLy⟩
    have e : ge_ori a b x * ge_ori c a y = ge_ori a b y * ge_ori c a x + ge_ori x a y * ge_ori a b c := by unfold ge_ori; grind
    have m1 := ge_mpp hin.2.1 h2
    have m2 := ge_mpp hin.1 hN
    exact ge_pos_of_mul h1 (by omega)
  exfalso
  by_cases hb : ge_Btw b x y
  · obtain ⟨s, t, h0s, h0t, e1, e2, ex, ey⟩ := ge_Btw_param hb
    have k := ge_ori_param (p := b) (q := c) ex ey
    rw [ge_ori_aba] at k
    have : ge_ori b c y ≤ ge_ori b c x := by
      apply Classical.byContradiction; intro hn
      by_cases hst : s + t = 0
      · have := e1 (by omega)
        have e : ge_ori b c y = ge_ori b c x := by unfold ge_ori; rw [this.1, this.2]
        omega
      · have m1 := ge_mpp (show 0 < s + t by omega) (show 0 < ge_ori b c y - ge_ori b c x by omega)
        have m2 := Int.mul_nonneg h0s h3
        rw [Int.mul_sub, k, Int.add_mul] at m1
        omega
    omega
  rcases ge_exit3 hx hs hin c2 hb c3 with h | h
  · exact c1 (ge_Xs_Cr h)
  · obtain ⟨_, _, zb, _⟩ := h
    have e : ge_ori a b x * (ge_ori b c z - ge_ori b c y) =
        (ge_ori a b c - ge_ori b c x) * (ge_ori z y x - ge_ori z y b) + ge_ori b c x * (ge_ori z y x - ge_ori z y a) := by unfold ge_ori; grind
    have m1 := ge_mpp (show 0 < ge_ori a b c - ge_ori b c x by omega) (show 0 < ge_ori z y x - ge_ori z y b by omega)
    have m2 := Int.mul_nonneg h3 (show 0 ≤ ge_ori z y x - ge_ori z y a by omega)
    have := ge_pos_of_mul h1 (b := ge_ori b c z - ge_ori b c y) (by omega)
    omega

/-- The same in the mirror: towards z. -/
theorem ge_apex' {a b c x y z : ge_Pt} (hx : ge_Xs a x z y) (hN : 0 < ge_ori a b c) (h1 : 0 < ge_ori a b x) (h2 : 0 < ge_ori c a x)
    (h3 : 0 ≤ ge_ori b c x) (hL : ge_ori b c y ≤ ge_ori b c z) (c1 : ¬ ge_Cr a c y z) (c2 : ¬ ge_Btw a c z) (c3 : ¬ ge_Btw y z c) :
    0 < ge_ori a b z ∧ 0 < ge_ori c a z ∧ ge_ori b c x < ge_ori b c z := by
  let m : ge_Pt → ge_Pt := fun z => ge_mkp (-z.x) z.y z.h
  have hm : ∀ a b c, ge_ori (m a) (m b) (m c) = - ge_ori a b c := by intro a b c; simp only [m]; unfold ge_ori; simp only [ge_mkp_x, ge_mkp_y]; grind
  have hmb : ∀ p q r, ge_Btw (m p) (m q) (m r) → ge_Btw p q r := by
    intro p q r h
    unfold ge_Btw at h ⊢
    rw [hm] at h
    simp only [m, ge_mkp_x, ge_mkp_y] at h
    omega
  have hmc : ∀ p q r s, ge_Cr (m p) (m q) (m r) (m s) → ge_Cr p q r s := by
    intro p q r s h
    unfold ge_Cr at h ⊢
    simp only [hm, Int.neg_mul_neg] at h
    exact h
  have s1 := ge_swp2 a c b; have s2 := ge_swp a c x; have s3 := ge_swp a b x; have s4 := ge_swp b c x; have s5 := ge_swp b c y; have s6 := ge_swp b c z
  have s7 := ge_swp a c z; have s8 := ge_swp a b z
  have := ge_apex (a := m a) (b := m c) (c := m b) (x := m x) (y := m z) (z := m y)
    (by
      unfold ge_Xs at hx ⊢
      simp only [hm]
      have := ge_swp z y a; have := ge_swp z y x
      omega)
    (by rw [hm]; omega) (by rw [hm]; omega) (by rw [hm]; omega) (by rw [hm]; omega)
    (by rw [hm, hm]; omega) (fun h => c1 (hmc _ _ _ _ h)) (fun h => c2 (hmb _ _ _ h)) (fun h => c3 (hmb _ _ _ h))
  simp only [hm] at this
  omega

/-- Nothing lies in the angle between a side and the next one. -/
theorem ge_Plan.wedge {n : Nat} {P : Nat → ge_Pt} {E : Nat → Nat → Prop} (Pl : ge_Plan n P E) (inj : ge_Inj n P) {a b c : Nat} (hab : E a b) (hac : E a c) (hp : 0 < ge_ori (P a) (P b) (P c))
    (first : ∀ w, E a w → 0 < ge_ori (P a) (P b) (P w) → ¬ 0 < ge_ori (P a) (P w) (P c)) :
    ∀ x, x < n → x ≠ a → x ≠ b → x ≠ c →
      ¬ (0 ≤ ge_ori (P a) (P b) (P x) ∧ 0 ≤ ge_ori (P b) (P c) (P x) ∧ 0 ≤ ge_ori (P c) (P a) (P x)) := by
  classical
  have lab := Pl.lt hab
  have lac := Pl.lt hac
  have nbc : b ≠ c := by intro e; subst e; rw [ge_ori_abb] at hp; omega
  -- a point of the closed triangle that is no corner lies on neither of the two sides
  have strict : ∀ x, x < n → x ≠ a → x ≠ b → x ≠ c →
      0 ≤ ge_ori (P a) (P b) (P x) → 0 ≤ ge_ori (P b) (P c) (P x) → 0 ≤ ge_ori (P c) (P a) (P x) →
      0 < ge_ori (P a) (P b) (P x) ∧ 0 < ge_ori (P c) (P a) (P x) := by
    intro x hx n1 n2 n3 h1 h2 h3
    have sum : ge_ori (P a) (P b) (P x) + ge_ori (P b) (P c) (P x) + ge_ori (P c) (P a) (P x) = ge_ori (P a) (P b) (P c) := by
      unfold ge_ori; grind
    have r1 := ge_rot (P a) (P b) (P c)
    have r2 := ge_rot2 (P a) (P b) (P c)
    have z1 := ge_ori_aba (P b) (P c)
    have z2 := ge_ori_abb (P c) (P a)
    constructor
    · apply Classical.byContradiction; intro hn
      exact Pl.clear hab x hx n1 n2 (ge_btw_ori (p := P b) (q := P c) (by omega) (by omega) (by omega) (by omega))
    · apply Classical.byContradiction; intro hn
      have z3 := ge_ori_abb (P b) (P c)
      have := ge_swp (P c) (P a) (P x)
      exact Pl.clear hac x hx n1 n3 (ge_btw_ori (p := P b) (q := P c) (by omega) (by omega) (by omega) (by omega))
  intro x0 hx0 n1 n2 n3 h0
  obtain ⟨x, hxm, xmax⟩ := ge_fin_max ((List.range n).filter fun x => decide (x ≠ a ∧ x ≠ b ∧ x ≠ c ∧
      0 ≤ ge_ori (P a) (P b) (P x) ∧ 0 ≤ ge_ori (P b) (P c) (P x) ∧ 0 ≤ ge_ori (P c) (P a) (P x)))
    (fun x y => ge_ori (P b) (P c) (P x) < ge_ori (P b) (P c) (P y)) (fun x h => by omega) (fun x y z h k => by omega)
    x0 (by simp only [List.mem_filter, List.mem_range, decide_eq_true_eq]; exact ⟨hx0, n1, n2, n3, h0⟩)
  simp only [List.mem_filter, List.mem_range, decide_eq_true_eq] at hxm xmax
  obtain ⟨hx, m1, m2, m3, k1, k2, k3⟩ := hxm
  have st := strict x hx m1 m2 m3 k1 k2 k3
  have sum : ge_ori (P a) (P b) (P x) + ge_ori (P b) (P c) (P x) + ge_ori (P c) (P a) (P x) = ge_ori (P a) (P b) (P c) := by
    unfold ge_ori; grind
  have r1 := ge_rot (P a) (P b) (P c)
  have hax : E a x := by
    apply Pl.max lab.1 hx (Ne.symm m1)
    · intro v hv e1 e2 hb
      obtain ⟨s, t, hs, ht, hh⟩ := ge_Btw_sides inj lab.1 hx hv e1 e2 hb
      have q1 := hh (P a) (P b)
      have q2 := hh (P b) (P c)
      have q3 := hh (P c) (P a)
      rw [ge_ori_aba] at q1
      rw [ge_ori_abb] at q3
      rw [r1] at q2
      have s0 : 0 < s + t := by omega
      have w1 := ge_mpp ht st.1
      have w3 := ge_mpp ht st.2
      have w2 := ge_mpp hs (show 0 < ge_ori (P a) (P b) (P c) - ge_ori (P b) (P c) (P x) by omega)
      have u1 : 0 < ge_ori (P a) (P b) (P v) := ge_pos_of_mul s0 (by omega)
      have u3 : 0 < ge_ori (P c) (P a) (P v) := ge_pos_of_mul s0 (by omega)
      have u2 : 0 < ge_ori (P b) (P c) (P v) - ge_ori (P b) (P c) (P x) := ge_pos_of_mul s0 (by
        rw [Int.mul_sub, q2, Int.add_mul]; rw [Int.mul_sub] at w2; omega)
      refine xmax v ⟨hv, e1, ?_, ?_, by omega, by omega, by omega⟩ (by omega)
      · intro e; subst e; rw [ge_ori_abb] at u1; omega
      · intro e; subst e; rw [ge_ori_aba] at u3; omega
    · intro p q hpq hc
      have key : ∀ z y, E z y → ¬ ge_Xs (P a) (P x) (P z) (P y) := by
        intro z y hzy hxs
        have lzy := Pl.lt hzy
        obtain ⟨z1, y1, za, zx⟩ := id hxs
        have sab := ge_swp2 (P a) (P b) (P x)
        have sca := ge_swp (P c) (P a) (P x)
        have nya : y ≠ a := by intro e; subst e; rw [ge_ori_aba] at y1; omega
        have nza : z ≠ a := by intro e; subst e; rw [ge_ori_aba] at z1; omega
        have sca2 := ge_swp2 (P a) (P c) (P x)
        have zb : z ≠ b := by intro e; subst e; omega
        have yc : y ≠ c := by intro e; subst e; omega
        rcases Int.le_total (ge_ori (P b) (P c) (P z)) (ge_ori (P b) (P c) (P y)) with hL | hL
        · by_cases hyb : y = b
          · subst hyb
            -- then y has height 0, but the crossing is higher than x
            have eL : ge_ori (P a) (P x) (P z) * ge_ori (P y) (P c) (P y) - ge_ori (P a) (P x) (P y) * ge_ori (P y) (P c) (P z) =
                ge_ori (P z) (P y) (P x) * ge_ori (P a) (P y) (P c) - ge_ori (P z) (P y) (P a) * ge_ori (P y) (P c) (P x) := by
              unfold ge_ori; grind
            rw [ge_ori_aba] at eL hL
            have w1 := ge_mpp zx hp
            have w2 := Int.mul_nonneg (show 0 ≤ -(ge_ori (P z) (P y) (P a)) by omega) k2
            have w3 := Int.mul_nonneg (show 0 ≤ -(ge_ori (P a) (P x) (P y)) by omega) (show 0 ≤ -(ge_ori (P y) (P c) (P z)) by omega)
            rw [Int.neg_mul] at w2
            rw [Int.neg_mul_neg] at w3
            omega
          · have := ge_apex hxs hp st.1 st.2 k2 hL (Pl.cross hab hzy) (Pl.clear hab y lzy.2 nya hyb)
              (Pl.clear hzy b lab.2 (Ne.symm zb) (Ne.symm hyb))
            exact xmax y ⟨lzy.2, nya, hyb, yc, by omega, by omega, by omega⟩ this.2.2
        · by_cases hzc : z = c
          · subst hzc
            have eL : ge_ori (P a) (P x) (P z) * ge_ori (P b) (P z) (P y) - ge_ori (P a) (P x) (P y) * ge_ori (P b) (P z) (P z) =
                ge_ori (P z) (P y) (P x) * ge_ori (P a) (P b) (P z) - ge_ori (P z) (P y) (P a) * ge_ori (P b) (P z) (P x) := by
              unfold ge_ori; grind
            rw [ge_ori_abb] at eL hL
            have w1 := ge_mpp zx hp
            have w2 := Int.mul_nonneg (show 0 ≤ -(ge_ori (P z) (P y) (P a)) by omega) k2
            have w3 := Int.mul_nonneg (show 0 ≤ ge_ori (P a) (P x) (P z) by omega) (show 0 ≤ -(ge_ori (P b) (P z) (P y)) by omega)
            rw [Int.neg_mul] at w2
            rw [Int.mul_neg] at w3
            omega
          · have := ge_apex' hxs hp st.1 st.2 k2 hL (Pl.cross hac (Pl.symm hzy)) (Pl.clear hac z lzy.1 nza hzc)
              (Pl.clear (Pl.symm hzy) c lac.2 (Ne.symm yc) (Ne.symm hzc))
            exact xmax z ⟨lzy.1, nza, zb, hzc, by omega, by omega, by omega⟩ this.2.2
      rcases (ge_Cr_iff _ _ _ _).mp hc with h | h
      · exact key p q hpq h
      · exact key q p (Pl.symm hpq) (ge_Xs_flip h)
  refine first x hax st.1 ?_
  have := ge_rot (P c) (P a) (P x)
  have := ge_rot (P a) (P x) (P c)
  omega

/-- Over each side with a vertex to its left lies a triangle of sides with nothing in it. -/
theorem ge_Plan.over {n : Nat} {P : Nat → ge_Pt} {E : Nat → Nat → Prop} (Pl : ge_Plan n P E) (inj : ge_Inj n P) {a b v0 : Nat} (hab : E a b) (hv0 : v0 < n) (hp0 : 0 < ge_ori (P a) (P b) (P v0)) :
    ∃ c, E a c ∧ E b c ∧ 0 < ge_ori (P a) (P b) (P c) ∧ ∀ x, x < n → x ≠ a → x ≠ b → x ≠ c →
      ¬ (0 ≤ ge_ori (P a) (P b) (P x) ∧ 0 ≤ ge_ori (P b) (P c) (P x) ∧ 0 ≤ ge_ori (P c) (P a) (P x)) := by
  classical
  obtain ⟨w0, hw0, hp⟩ := Pl.neighbour inj hab hv0 hp0
  obtain ⟨c, hc, cmax⟩ := ge_fin_max ((List.range n).filter fun x => decide (E a x ∧ 0 < ge_ori (P a) (P b) (P x)))
    (fun x y => ge_Bef (P a) (P b) (P x) (P y)) (fun x => ge_Bef_irr _ _ _) (fun x y z h k => ge_Bef_tr h k)
    w0 (by simp only [List.mem_filter, List.mem_range, decide_eq_true_eq]; exact ⟨(Pl.lt hw0).2, hw0, hp⟩)
  simp only [List.mem_filter, List.mem_range, decide_eq_true_eq] at hc cmax
  obtain ⟨hcn, hac, hpc⟩ := hc
  have first : ∀ w, E a w → 0 < ge_ori (P a) (P b) (P w) → ¬ 0 < ge_ori (P a) (P w) (P c) := by
    intro w hw h1 h2
    exact cmax w ⟨(Pl.lt hw).2, hw, h1⟩ ⟨hpc, h1, Or.inl h2⟩
  have W := Pl.wedge inj hab hac hpc first
  have lab := Pl.lt hab
  have nbc : b ≠ c := by intro e; subst e; rw [ge_ori_abb] at hpc; omega
  have nab := Pl.ne hab
  have nac := Pl.ne hac
  have r1 := ge_rot (P a) (P b) (P c)
  refine ⟨c, hac, ?_, hpc, W⟩
  apply Pl.max lab.2 hcn nbc
  · intro v hv e1 e2 hb
    obtain ⟨s, t, hs, ht, hh⟩ := ge_Btw_sides inj lab.2 hcn hv e1 e2 hb
    have q1 := hh (P a) (P b)
    have q3 := hh (P c) (P a)
    rw [ge_ori_abb] at q1
    rw [ge_ori_aba, ge_rot2 (P a) (P b) (P c)] at q3
    have w1 := ge_mpp ht hpc
    have w3 := ge_mpp hs hpc
    have u1 : 0 < ge_ori (P a) (P b) (P v) := ge_pos_of_mul (show 0 < s + t by omega) (by omega)
    have u3 : 0 < ge_ori (P c) (P a) (P v) := ge_pos_of_mul (show 0 < s + t by omega) (by omega)
    refine W v hv ?_ e1 e2 ⟨by omega, by have := hb.1; omega, by omega⟩
    intro e; subst e; rw [ge_ori_aba] at u1; omega
  · intro p q hpq hcr
    have key : ∀ y z, E y z → ¬ ge_Xs (P c) (P b) (P y) (P z) := by
      intro y z hyz hxs
      obtain ⟨y1, z1, yc, yb⟩ := id hxs
      have lyz := Pl.lt hyz
      have s1 := ge_swp (P c) (P b) (P z)
      have s2 := ge_swp (P c) (P b) (P y)
      have nzb : z ≠ b := by intro e; subst e; rw [ge_ori_abb] at z1; omega
      have nzc : z ≠ c := by intro e; subst e; rw [ge_ori_aba] at z1; omega
      have nya : y ≠ a := by intro e; subst e; omega
      by_cases hza : z = a
      · subst hza
        refine first y (Pl.symm hyz) ?_ ?_
        · have := ge_rot (P y) (P z) (P b); omega
        · have := ge_swp2 (P z) (P c) (P y)
          have := ge_swp (P y) (P z) (P c)
          have := ge_rot (P z) (P y) (P c)
          have := ge_rot2 (P z) (P y) (P c)
          have := ge_swp (P z) (P y) (P c)
          omega
      rcases ge_exit3 (p := P c) (q := P b) (s := P a) hxs (by omega)
        (fun hh => W z lyz.2 hza nzb nzc ⟨by omega, by omega, by omega⟩)
        (Pl.clear (Pl.symm hac) z lyz.2 nzc hza) (Pl.clear hab z lyz.2 hza nzb)
        (Pl.clear hyz a lab.1 (Ne.symm nya) (Ne.symm hza)) with h | h
      · exact Pl.cross (Pl.symm hac) hyz (ge_Xs_Cr h)
      · exact Pl.cross hab hyz (ge_Xs_Cr h)
    rcases (ge_Cr_iff _ _ _ _).mp hcr with h | h
    · exact key q p (Pl.symm hpq) (ge_Xs_flip h)
    · exact key p q hpq h
