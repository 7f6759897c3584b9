variable {n : Nat} {P : Nat → ge_Pt}

/-- Sides drawn without crossings, until no other fits. -/
def ge_Plan (n : Nat) (P : Nat → ge_Pt) (E : Nat → Nat → Prop) : Prop :=
  (∀ a b, E a b → a < n ∧ b < n) ∧
  (∀ a b, E a b → a ≠ b) ∧
  (∀ a b, E a b → E b a) ∧
  (∀ a b, E a b → ge_Clear n P a b) ∧
  (∀ a b c d, E a b → E c d → ¬ ge_Cr (P a) (P b) (P c) (P d)) ∧
  (∀ a b, a < n → b < n → a ≠ b → ge_Clear n P a b → (∀ c d, E c d → ¬ ge_Cr (P a) (P b) (P c) (P d)) → E a b)
theorem ge_Plan.lt {n : Nat} {P : Nat → ge_Pt} {E : Nat → Nat → Prop} (M : ge_Plan n P E) {a b : Nat} : E a b → a < n ∧ b < n := M.1 a b
theorem ge_Plan.ne {n : Nat} {P : Nat → ge_Pt} {E : Nat → Nat → Prop} (M : ge_Plan n P E) {a b : Nat} : E a b → a ≠ b := M.2.1 a b
theorem ge_Plan.symm {n : Nat} {P : Nat → ge_Pt} {E : Nat → Nat → Prop} (M : ge_Plan n P E) {a b : Nat} : E a b → E b a := M.2.2.1 a b
theorem ge_Plan.clear {n : Nat} {P : Nat → ge_Pt} {E : Nat → Nat → Prop} (M : ge_Plan n P E) {a b : Nat} : E a b → ge_Clear n P a b := M.2.2.2.1 a b
theorem ge_Plan.cross {n : Nat} {P : Nat → ge_Pt} {E : Nat → Nat → Prop} (M : ge_Plan n P E) {a b c d : Nat} : E a b → E c d → ¬ ge_Cr (P a) (P b) (P c) (P d) := M.2.2.2.2.1 a b c d
theorem ge_Plan.max {n : Nat} {P : Nat → ge_Pt} {E : Nat → Nat → Prop} (M : ge_Plan n P E) {a b : Nat} : a < n → b < n → a ≠ b → ge_Clear n P a b → (∀ c d, E c d → ¬ ge_Cr (P a) (P b) (P c) (P d)) → E a b := M.2.2.2.2.2 a b
theorem ge_Plan.mk {n : Nat} {P : Nat → ge_Pt} {E : Nat → Nat → Prop}
    (lt : ∀ {a b : Nat}, E a b → a < n ∧ b < n)
    (ne : ∀ {a b : Nat}, E a b → a ≠ b)
    (symm : ∀ {a b : Nat}, E a b → E b a)
    (clear : ∀ {a b : Nat}, E a b → ge_Clear n P a b)
    (cross : ∀ {a b c d : Nat}, E a b → E c d → ¬ ge_Cr (P a) (P b) (P c) (P d))
    (max : ∀ {a b : Nat}, a < n → b < n → a ≠ b → ge_Clear n P a b → (∀ c d, E c d → ¬ ge_Cr (P a) (P b) (P c) (P d)) → E a b)
    : ge_Plan n P E :=
  ⟨fun _ _ => lt, fun _ _ => ne, fun _ _ => symm, fun _ _ => clear, fun _ _ _ _ => cross, fun _ _ => max⟩

/-- y is seen from a before x, from the direction of b on; or nearer in the same direction. -/
def ge_Bef (a b x y : ge_Pt) : Prop :=
  0 < ge_ori a b x ∧ 0 < ge_ori a b y ∧ (0 < ge_ori a y x ∨ (ge_ori a y x = 0 ∧ ge_ori a b y < ge_ori a b x))

theorem ge_Bef_irr (a b x : ge_Pt) : ¬ ge_Bef a b x x := by
  intro h; unfold ge_Bef at h; rw [ge_ori_abb] at h; omega

theorem ge_Bef_tr {a b x y z : ge_Pt} (h : ge_Bef a b x y) (k : ge_Bef a b y z) : ge_Bef a b x z := by
  obtain ⟨h1, h2, h3⟩ := h
  obtain ⟨_, k2, k3⟩ := k
  refine ⟨h1, k2, ?_⟩
  have e : ge_ori a b y * ge_ori a z x = ge_ori a b x * ge_ori a z y + ge_ori a b z * ge_ori a y x := by unfold ge_ori; grind
  rcases h3 with h3 | ⟨h3, h4⟩ <;> rcases k3 with k3 | ⟨k3, k4⟩
  · left
    have m1 := ge_mpp h1 k3; have m2 := ge_mpp k2 h3
    exact ge_pos_of_mul h2 (by omega)
  · left
    have m2 := ge_mpp k2 h3
    rw [k3, Int.mul_zero] at e
    exact ge_pos_of_mul h2 (by omega)
  · left
    have m1 := ge_mpp h1 k3
    rw [h3, Int.mul_zero] at e
    exact ge_pos_of_mul h2 (by omega)
  · right
    rw [h3, k3, Int.mul_zero, Int.mul_zero] at e
    refine ⟨?_, by omega⟩
    rcases Int.mul_eq_zero.mp (by omega : ge_ori a b y * ge_ori a z x = 0) with q | q
    · omega
    · exact q

theorem ge_Plan.between {E : Nat → Nat → Prop} (Pl : ge_Plan n P E) (inj : ge_Inj n P) {a b x v : Nat} (ha : a < n) (hx : x < n) (hv : v < n) (n1 : v ≠ a) (n2 : v ≠ x)
    (hpx : 0 < ge_ori (P a) (P b) (P x)) (hb : ge_Btw (P a) (P x) (P v)) :
    ge_Bef (P a) (P b) (P x) (P v) ∧ ∃ s t : Int, 0 < s ∧ 0 < t ∧
      ∀ p q : ge_Pt, (s + t) * ge_ori p q (P v) = s * ge_ori p q (P a) + t * ge_ori p q (P x) := by
  obtain ⟨s, t, hs, ht, hh⟩ := ge_Btw_sides inj ha hx hv n1 n2 hb
  have k := hh (P a) (P b)
  rw [ge_ori_aba, Int.mul_zero] at k
  have m1 := ge_mpp ht hpx
  have m2 := ge_mpp hs hpx
  have st : 0 < s + t := by omega
  have r1 : 0 < ge_ori (P a) (P b) (P v) := ge_pos_of_mul st (by omega)
  have r2 : 0 < ge_ori (P a) (P b) (P x) - ge_ori (P a) (P b) (P v) := ge_pos_of_mul st (by
    rw [Int.mul_sub, k, Int.add_mul]; omega)
  refine ⟨⟨hpx, r1, Or.inr ⟨?_, by omega⟩⟩, s, t, hs, ht, hh⟩
  have := hb.1
  have := ge_swp2 (P a) (P x) (P v)
  omega

/-- From a towards c: a side, or the nearest side u v in the way and a side a w before it. -/
theorem ge_Plan.toward {E : Nat → Nat → Prop} (Pl : ge_Plan n P E) (inj : ge_Inj n P) {a c : Nat} (ha : a < n) (hcn : c < n) (hac : a ≠ c) (clr : ge_Clear n P a c) :
    E a c ∨ ∃ u v w, E u v ∧ ge_Xs (P a) (P c) (P u) (P v) ∧ E a w ∧ 0 < ge_ori (P a) (P c) (P w) ∧
      0 ≤ ge_ori (P a) (P w) (P u) := by
  classical
  by_cases hcr : ∀ u v, E u v → ¬ ge_Cr (P a) (P c) (P u) (P v)
  · exact Or.inl (Pl.max ha hcn hac clr hcr)
  right
  -- the side that crosses a c nearest to a
  have hex : ∃ u v, E u v ∧ ge_Xs (P a) (P c) (P u) (P v) := by
    apply Classical.byContradiction; intro hn
    apply hcr
    intro u v he hx
    rcases (ge_Cr_iff _ _ _ _).mp hx with h | h
    · exact hn ⟨u, v, he, h⟩
    · exact hn ⟨v, u, Pl.symm he, ge_Xs_flip h⟩
  obtain ⟨u0, v0', he0, hx0⟩ := hex
  obtain ⟨⟨u, v⟩, huv, nmax⟩ := ge_fin_max
    (((List.range n).flatMap fun x => (List.range n).map fun y => (x, y)).filter
      fun e => decide (E e.1 e.2 ∧ ge_Xs (P a) (P c) (P e.1) (P e.2)))
    (fun e f => ge_Xs (P a) (P c) (P e.1) (P e.2) ∧ ge_Xs (P a) (P c) (P f.1) (P f.2) ∧
      (-(ge_ori (P f.1) (P f.2) (P a))) * ge_ori (P e.1) (P e.2) (P c) <
        ge_ori (P f.1) (P f.2) (P c) * (-(ge_ori (P e.1) (P e.2) (P a))))
    (by intro e h; rw [Int.mul_comm] at h; omega)
    (by
      rintro e f g ⟨h1, h2, h3⟩ ⟨_, k2, k3⟩
      refine ⟨h1, k2, ?_⟩
      obtain ⟨_, _, ea, ec⟩ := h1
      obtain ⟨_, _, fa, fc⟩ := h2
      obtain ⟨_, _, ga, gc⟩ := k2
      revert h3 k3 ea ec fa fc ga gc
      generalize ge_ori (P e.1) (P e.2) (P a) = x1
      generalize ge_ori (P e.1) (P e.2) (P c) = x2
      generalize ge_ori (P f.1) (P f.2) (P a) = y1
      generalize ge_ori (P f.1) (P f.2) (P c) = y2
      generalize ge_ori (P g.1) (P g.2) (P a) = z1
      generalize ge_ori (P g.1) (P g.2) (P c) = z2
      intro h3 k3 ea ec fa fc ga gc
      -- (-y1) x2 < y2 (-x1), (-z1) y2 < z2 (-y1) ⊢ (-z1) x2 < z2 (-x1)
      have m1 := ge_mpp gc (show 0 < y2 * (-x1) - (-y1) * x2 by omega)
      have m2 := ge_mpp ec (show 0 < z2 * (-y1) - (-z1) * y2 by omega)
      have := ge_pos_of_mul fc (b := z2 * (-x1) - (-z1) * x2) (by grind)
      omega)
    (u0, v0') (by
      have := Pl.lt he0
      simp only [List.mem_filter, List.mem_flatMap, List.mem_range, List.mem_map, decide_eq_true_eq]
      exact ⟨⟨u0, this.1, v0', this.2, rfl⟩, he0, hx0⟩)
  have nmax' : ∀ x y, E x y → ge_Xs (P a) (P c) (P x) (P y) →
      ¬ ((-(ge_ori (P x) (P y) (P a))) * ge_ori (P u) (P v) (P c) < ge_ori (P x) (P y) (P c) * (-(ge_ori (P u) (P v) (P a)))) := by
    intro x y he hx hlt
    have l := Pl.lt he
    simp only [List.mem_filter, List.mem_flatMap, List.mem_range, List.mem_map, decide_eq_true_eq] at huv
    refine nmax (x, y) ?_ ⟨huv.2.2, hx, hlt⟩
    simp only [List.mem_filter, List.mem_flatMap, List.mem_range, List.mem_map, decide_eq_true_eq]
    exact ⟨⟨x, l.1, y, l.2, rfl⟩, he, hx⟩
  simp only [List.mem_filter, List.mem_flatMap, List.mem_range, List.mem_map, decide_eq_true_eq] at huv
  obtain ⟨_, heuv, hxuv⟩ := huv
  obtain ⟨hu, hv, hva, hvc⟩ := hxuv
  have luv := Pl.lt heuv
  -- the first vertex before u v, from a c on
  obtain ⟨w, hw, wmax⟩ := ge_fin_max ((List.range n).filter fun x => decide (0 < ge_ori (P a) (P c) (P x) ∧
      ge_ori (P u) (P v) (P x) ≤ 0 ∧ 0 ≤ ge_ori (P a) (P x) (P u)))
    (fun x y => ge_Bef (P a) (P c) (P x) (P y)) (fun x => ge_Bef_irr _ _ _) (fun x y z h k => ge_Bef_tr h k)
    u (by simp; refine ⟨luv.1, hu, ?_, ?_⟩
          · rw [ge_ori_aba]; exact Int.le_refl _
          · rw [ge_ori_abb]; exact Int.le_refl _)
  simp only [List.mem_filter, List.mem_range, decide_eq_true_eq] at hw wmax
  obtain ⟨hwn, w1, w2, w3⟩ := hw
  have haw : a ≠ w := by intro e; subst e; rw [ge_ori_aba] at w1; omega
  have clrw : ge_Clear n P a w := by
    intro z hz n1 n2 hb
    obtain ⟨hbef, s, t, hs, ht, hh⟩ := ge_Plan.between Pl inj ha hwn hz n1 n2 w1 hb
    refine wmax z ⟨hz, hbef.2.1, ?_, ?_⟩ hbef
    · have k := hh (P u) (P v)
      have m1 := ge_mpn hs hva
      have m2 := Int.mul_nonneg (show 0 ≤ t by omega) (show 0 ≤ -(ge_ori (P u) (P v) (P w)) by omega)
      rw [Int.mul_neg] at m2
      exact ge_nonpos_of_mul (show 0 < s + t by omega) (by omega)
    · have k := hh (P u) (P a)
      rw [ge_ori_abb, Int.mul_zero] at k
      have r1 := ge_rot (P u) (P a) (P z)
      have r2 := ge_rot (P u) (P a) (P w)
      rw [r1]
      have m2 := Int.mul_nonneg (show 0 ≤ t by omega) (show 0 ≤ ge_ori (P u) (P a) (P w) by omega)
      exact ge_nonneg_of_mul (show 0 < s + t by omega) (by omega)
  have step : ∀ x y, E x y → ¬ ge_Xs (P a) (P w) (P y) (P x) := by
    intro x y he hx
    have l := Pl.lt he
    rcases ge_near_core hu hv hva hvc w1 w2 w3 hx with h | h | h | h
    · have x1 := hx.2.1
      have e1 := ge_swp2 (P a) (P w) (P x)
      refine wmax x ⟨l.1, h.1, h.2, ?_⟩ ⟨w1, h.1, Or.inl (by omega)⟩
      have e : ge_ori (P a) (P c) (P w) * ge_ori (P a) (P x) (P u) =
          ge_ori (P a) (P c) (P x) * ge_ori (P a) (P w) (P u) + ge_ori (P a) (P c) (P u) * ge_ori (P a) (P x) (P w) := by
        unfold ge_ori; grind
      have m1 := Int.mul_nonneg (show 0 ≤ ge_ori (P a) (P c) (P x) by omega) w3
      have m2 := ge_mpp hu (show 0 < ge_ori (P a) (P x) (P w) by omega)
      exact ge_nonneg_of_mul w1 (by omega)
    · exact Pl.cross he heuv h
    · exact nmax' y x (Pl.symm he) ⟨h.2.1, h.1, h.2.2.2.1, h.2.2.1⟩ h.2.2.2.2
    · refine clr x l.1 ?_ ?_ h.1
      · intro e; subst e; have := hx.2.1; rw [ge_ori_aba] at this; omega
      · intro e; subst e; omega
  refine ⟨u, v, w, heuv, ⟨hu, hv, hva, hvc⟩, Pl.max ha hwn haw clrw ?_, w1, w3⟩
  intro x y he hc
  rcases (ge_Cr_iff _ _ _ _).mp hc with h | h
  · exact step y x (Pl.symm he) h
  · exact step x y he (ge_Xs_flip h)

theorem ge_Plan.neighbour {E : Nat → Nat → Prop} (Pl : ge_Plan n P E) (inj : ge_Inj n P) {a b v0 : Nat} (hab : E a b) (hv0 : v0 < n) (hp0 : 0 < ge_ori (P a) (P b) (P v0)) :
    ∃ w, E a w ∧ 0 < ge_ori (P a) (P b) (P w) := by
  classical
  have la := Pl.lt hab
  -- the first vertex to the left of a b, as seen from a
  obtain ⟨c, hc, cmax⟩ := ge_fin_max ((List.range n).filter fun x => decide (0 < ge_ori (P a) (P b) (P x)))
    (fun x y => ge_Bef (P a) (P b) (P x) (P y)) (fun x => ge_Bef_irr _ _ _) (fun x y z h k => ge_Bef_tr h k)
    v0 (by simp; exact ⟨hv0, hp0⟩)
  simp only [List.mem_filter, List.mem_range, decide_eq_true_eq] at hc cmax
  obtain ⟨hcn, hcp⟩ := hc
  have hac : a ≠ c := by intro e; subst e; rw [ge_ori_aba] at hcp; omega
  have clr : ge_Clear n P a c := by
    intro v hv n1 n2 hb
    have := (ge_Plan.between Pl inj la.1 hcn hv n1 n2 hcp hb).1
    exact cmax v ⟨hv, this.2.1⟩ this
  rcases Pl.toward inj la.1 hcn hac clr with h | ⟨u, v, w, heuv, ⟨hu, hv, hva, hvc⟩, haw, w1, w3⟩
  · exact ⟨c, h, hcp⟩
  have luv := Pl.lt heuv
  -- u lies to the left of a b
  have hvb : ge_ori (P a) (P b) (P v) ≤ 0 := by
    apply Classical.byContradiction; intro hn
    refine cmax v ⟨luv.2, by omega⟩ ⟨hcp, by omega, Or.inl ?_⟩
    have := ge_swp2 (P a) (P c) (P v)
    omega
  have hub : 0 < ge_ori (P a) (P b) (P u) := by
    have e : ge_ori (P a) (P c) (P u) * ge_ori (P a) (P b) (P v) - ge_ori (P a) (P c) (P v) * ge_ori (P a) (P b) (P u) =
        (-(ge_ori (P u) (P v) (P a))) * ge_ori (P a) (P b) (P c) := by unfold ge_ori; grind
    have m1 := ge_mpp (show 0 < -(ge_ori (P u) (P v) (P a)) by omega) hcp
    have m2 := Int.mul_nonneg (show 0 ≤ ge_ori (P a) (P c) (P u) by omega) (show 0 ≤ -(ge_ori (P a) (P b) (P v)) by omega)
    rw [Int.mul_neg] at m2
    apply ge_pos_of_mul (a := -(ge_ori (P a) (P c) (P v))) (by omega)
    rw [Int.neg_mul]
    omega
  refine ⟨w, haw, ?_⟩
  · have e : ge_ori (P a) (P b) (P w) * ge_ori (P a) (P c) (P u) =
        ge_ori (P a) (P b) (P c) * ge_ori (P a) (P w) (P u) + ge_ori (P a) (P b) (P u) * ge_ori (P a) (P c) (P w) := by
      unfold ge_ori; grind
    have m1 := Int.mul_nonneg (show 0 ≤ ge_ori (P a) (P b) (P c) by omega) w3
    have m2 := ge_mpp hub w1
    apply ge_pos_of_mul hu
    rw [Int.mul_comm]
    omega
