section
variable {n : Nat} {P : Nat → ge_Pt} {T : Nat → Nat → Nat → Prop} {L : Nat → Nat → Prop}

/-- A mesh has a side of the hull. -/
theorem ge_hull_ex (M : ge_Mesh n P T) {K : Int} (hK : ∀ i j, i < n → j < n → ge_el K (P i) = ge_el K (P j) → i = j) (hn : 0 < n) :
    ∃ a b c, T a b c ∧ ∀ v, v < n → 0 ≤ ge_ori (P a) (P b) (P v) := by
  classical
  obtain ⟨u, hu, umax⟩ := ge_fin_max (List.range n) (fun x y => ge_el K (P y) < ge_el K (P x))
    (fun x h => Int.lt_irrefl _ h) (fun x y z h k => Int.lt_trans k h) 0 (List.mem_range.mpr hn)
  have hu' : u < n := List.mem_range.mp hu
  have low : ∀ v, v < n → v ≠ u → ge_el K (P u) < ge_el K (P v) := by
    intro v hv hne
    have h1 := umax v (List.mem_range.mpr hv)
    have h2 : ge_el K (P u) ≠ ge_el K (P v) := fun e => hne (hK u v hu' hv e).symm
    omega
  obtain ⟨b, c, hb⟩ := M.full hu'
  have nbr : ∀ x, ge_Edge T u x → x < n ∧ x ≠ u := by
    rintro x ⟨c, h | h⟩
    · exact ⟨(M.lt h).2.1, (M.ne h).1.symm⟩
    · exact ⟨(M.lt h).1, (M.ne h).1⟩
  obtain ⟨x, hx, xmax⟩ := ge_fin_max ((List.range n).filter fun x => decide (ge_Edge T u x))
    (fun x y => ge_el K (P u) < ge_el K (P x) ∧ ge_el K (P u) < ge_el K (P y) ∧ 0 < ge_ori (P u) (P y) (P x))
    (fun x h => by have := ge_ori_abb (P u) (P x); omega)
    (by
      rintro x y z ⟨h1, h2, h3⟩ ⟨_, k2, k3⟩
      refine ⟨h1, k2, ?_⟩
      have e := ge_lin3 K (P u) (P z) (P y) (P x)
      have m1 := ge_mpp (show 0 < ge_el K (P z) - ge_el K (P u) by omega) h3
      have m2 := ge_mpp (show 0 < ge_el K (P x) - ge_el K (P u) by omega) k3
      exact ge_pos_of_mul (a := ge_el K (P y) - ge_el K (P u)) (by omega) (by omega))
    b (List.mem_filter.mpr ⟨List.mem_range.mpr (M.lt hb).2.1, by simpa using ⟨c, Or.inl hb⟩⟩)
  have hxe : ge_Edge T u x := by simpa using (List.mem_filter.mp hx).2
  have nox : ∀ d, ¬ T x u d := by
    intro d hd
    have hde : ge_Edge T u d := ⟨x, Or.inl (M.rot hd)⟩
    have hp := M.pos hd
    have e := ge_rot (P x) (P u) (P d)
    refine xmax d (List.mem_filter.mpr ⟨List.mem_range.mpr (nbr d hde).1, by simpa using hde⟩) ⟨low x (nbr x hxe).1 (nbr x hxe).2, low d (nbr d hde).1 (nbr d hde).2, by omega⟩
  obtain ⟨d, hd | hd⟩ := hxe
  · refine ⟨u, x, d, hd, ?_⟩
    intro v hv
    apply Classical.byContradiction; intro hh
    obtain ⟨d', hd'⟩ := M.ext hd hv (by have := ge_swp (P u) (P x) (P v); omega)
    exact nox d' hd'
  · exact absurd hd (nox d)
end

theorem ge_Dd_gp (a b c d e : ge_Pt) : ge_ori a b e * ge_Dd a b c d - ge_ori a b d * ge_Dd a b c e + ge_ori a b c * ge_Dd a b d e = 0 := by
  unfold ge_Dd ge_ori; grind

section
variable {n : Nat} {X Y : Nat → Int}

/-- The points without heights that tell. -/
def ge_Q0 (X Y : Nat → Int) : Nat → ge_Pt := ge_lift X Y 1 (fun _ => 0)

theorem ge_ori_Q0 (a b c : Nat) : ge_ori (ge_Q0 X Y a) (ge_Q0 X Y b) (ge_Q0 X Y c) = ge_ori (ge_PP X Y a) (ge_PP X Y b) (ge_PP X Y c) :=
  ge_ori_lift _ _ _ _ _ _ _

theorem ge_bary (a b c d : Nat) :
    ge_ori (ge_Q0 X Y a) (ge_Q0 X Y b) (ge_Q0 X Y c) * ge_circ X Y a b c d =
      ge_ori (ge_Q0 X Y b) (ge_Q0 X Y c) (ge_Q0 X Y d) * ge_ori (ge_Q0 X Y c) (ge_Q0 X Y a) (ge_Q0 X Y d) * ((X a - X b) * (X a - X b) + (Y a - Y b) * (Y a - Y b)) +
      ge_ori (ge_Q0 X Y c) (ge_Q0 X Y a) (ge_Q0 X Y d) * ge_ori (ge_Q0 X Y a) (ge_Q0 X Y b) (ge_Q0 X Y d) * ((X b - X c) * (X b - X c) + (Y b - Y c) * (Y b - Y c)) +
      ge_ori (ge_Q0 X Y a) (ge_Q0 X Y b) (ge_Q0 X Y d) * ge_ori (ge_Q0 X Y b) (ge_Q0 X Y c) (ge_Q0 X Y d) * ((X c - X a) * (X c - X a) + (Y c - Y a) * (Y c - Y a)) := by
  unfold ge_circ ge_Dd ge_ori ge_Q0 ge_lift
  simp only [ge_mkp_x, ge_mkp_y, ge_mkp_h]
  grind

theorem ge_DPP (hx : ∀ i, i < n → -1000000 ≤ X i ∧ X i ≤ 1000000) (hy : ∀ i, i < n → -1000000 ≤ Y i ∧ Y i ≤ 1000000)
    {a b c d : Nat} (ha : a < n) (hb : b < n) (hc : c < n) (hd : d < n) :
    (0 < ge_circ X Y a b c d → 0 < ge_Dd (ge_PP X Y a) (ge_PP X Y b) (ge_PP X Y c) (ge_PP X Y d)) ∧
    (ge_circ X Y a b c d < 0 → ge_Dd (ge_PP X Y a) (ge_PP X Y b) (ge_PP X Y c) (ge_PP X Y d) < 0) ∧
    (ge_circ X Y a b c d = 0 → ge_Dd (ge_PP X Y a) (ge_PP X Y b) (ge_PP X Y c) (ge_PP X Y d) =
      -(ge_eps a * ge_ori (ge_Q0 X Y b) (ge_Q0 X Y c) (ge_Q0 X Y d) + ge_eps b * ge_ori (ge_Q0 X Y c) (ge_Q0 X Y a) (ge_Q0 X Y d)
        + ge_eps c * ge_ori (ge_Q0 X Y a) (ge_Q0 X Y b) (ge_Q0 X Y d) - ge_eps d * ge_ori (ge_Q0 X Y a) (ge_Q0 X Y b) (ge_Q0 X Y c))) := by
  have dl := ge_Dd_lift (X := X) (Y := Y) ge_kay ge_eps a b c d
  have cd : ge_circ X Y a b c d = ge_Dd (ge_lift X Y 1 (fun _ => 0) a) (ge_lift X Y 1 (fun _ => 0) b)
    (ge_lift X Y 1 (fun _ => 0) c) (ge_lift X Y 1 (fun _ => 0) d) := rfl
  rw [← cd] at dl
  have b1 := ge_ori_bound (k := 1) (e := fun _ => 0) hx hy hb hc hd
  have b2 := ge_ori_bound (k := 1) (e := fun _ => 0) hx hy hc ha hd
  have b3 := ge_ori_bound (k := 1) (e := fun _ => 0) hx hy ha hb hd
  have b4 := ge_ori_bound (k := 1) (e := fun _ => 0) hx hy ha hb hc
  unfold ge_PP ge_Q0
  revert dl b1 b2 b3 b4
  generalize ge_ori (ge_lift X Y 1 (fun _ => 0) a) (ge_lift X Y 1 (fun _ => 0) b) (ge_lift X Y 1 (fun _ => 0) c) = o4
  generalize ge_ori (ge_lift X Y 1 (fun _ => 0) a) (ge_lift X Y 1 (fun _ => 0) b) (ge_lift X Y 1 (fun _ => 0) d) = o3
  generalize ge_ori (ge_lift X Y 1 (fun _ => 0) c) (ge_lift X Y 1 (fun _ => 0) a) (ge_lift X Y 1 (fun _ => 0) d) = o2
  generalize ge_ori (ge_lift X Y 1 (fun _ => 0) b) (ge_lift X Y 1 (fun _ => 0) c) (ge_lift X Y 1 (fun _ => 0) d) = o1
  generalize ge_Dd (ge_lift X Y ge_kay ge_eps a) (ge_lift X Y ge_kay ge_eps b) (ge_lift X Y ge_kay ge_eps c) (ge_lift X Y ge_kay ge_eps d) = DD
  generalize ge_circ X Y a b c d = C
  intro dl b1 b2 b3 b4
  have small : ∀ (i : Nat) (o : Int), -8000000000000 ≤ o → o ≤ 8000000000000 →
      - ge_kay < 4 * (ge_eps i * o) ∧ 4 * (ge_eps i * o) < ge_kay := by
    intro i o l u
    have e1 := ge_eps_one i
    have e2 : 35184372088832 * ge_eps i ≤ ge_kay := ge_epsr_lt (by omega)
    have m1 := Int.mul_nonneg (show 0 ≤ ge_eps i by omega) (show 0 ≤ 8000000000000 - o by omega)
    have m2 := Int.mul_nonneg (show 0 ≤ ge_eps i by omega) (show 0 ≤ 8000000000000 + o by omega)
    rw [Int.mul_sub] at m1
    rw [Int.mul_add] at m2
    omega
  have s1 := small a o1 b1.1 b1.2
  have s2 := small b o2 b2.1 b2.2
  have s3 := small c o3 b3.1 b3.2
  have s4 := small d o4 b4.1 b4.2
  have kp : 1 ≤ ge_kay := ge_epsr_pos 14
  refine ⟨fun h => ?_, fun h => ?_, fun h => ?_⟩
  · have := Int.mul_nonneg (show 0 ≤ ge_kay by omega) (show 0 ≤ C - 1 by omega)
    rw [Int.mul_sub] at this
    omega
  · have := Int.mul_nonneg (show 0 ≤ ge_kay by omega) (show 0 ≤ -C - 1 by omega)
    rw [Int.mul_sub, Int.mul_neg] at this
    omega
  · rw [h, Int.mul_zero] at dl
    omega

/-- One weight that is far above the others tells. -/
theorem ge_dom {e1 e2 e3 e4 o1 o2 o3 o4 : Int} (h : 1 ≤ o1)
    (b2 : -8000000000000 ≤ o2 ∧ o2 ≤ 8000000000000) (b3 : -8000000000000 ≤ o3 ∧ o3 ≤ 8000000000000) (b4 : -8000000000000 ≤ o4 ∧ o4 ≤ 8000000000000)
    (p1 : 1 ≤ e1) (p2 : 1 ≤ e2) (p3 : 1 ≤ e3) (p4 : 1 ≤ e4) (g2 : 35184372088832 * e2 ≤ e1) (g3 : 35184372088832 * e3 ≤ e1) (g4 : 35184372088832 * e4 ≤ e1) :
    0 < e1 * o1 + e2 * o2 + e3 * o3 + e4 * o4 := by
  have m1 := Int.mul_nonneg (show 0 ≤ e1 by omega) (show 0 ≤ o1 - 1 by omega)
  have m2 := Int.mul_nonneg (show 0 ≤ e2 by omega) (show 0 ≤ 8000000000000 + o2 by omega)
  have m3 := Int.mul_nonneg (show 0 ≤ e3 by omega) (show 0 ≤ 8000000000000 + o3 by omega)
  have m4 := Int.mul_nonneg (show 0 ≤ e4 by omega) (show 0 ≤ 8000000000000 + o4 by omega)
  rw [Int.mul_sub] at m1
  rw [Int.mul_add] at m2 m3 m4
  omega

/-- What it means that c is above d over a b: by the circle, and where it doesn't tell, by the least number. -/
theorem ge_won (inj : ge_InjXY n X Y) (h12 : n ≤ 12) (hx : ∀ i, i < n → -1000000 ≤ X i ∧ X i ≤ 1000000)
    (hy : ∀ i, i < n → -1000000 ≤ Y i ∧ Y i ≤ 1000000)
    {a b c d : Nat} (ha : a < n) (hb : b < n) (hc : c < n) (hd : d < n) (hcd : c ≠ d)
    (h1 : 0 < ge_ori (ge_PP X Y a) (ge_PP X Y b) (ge_PP X Y c)) (h2 : 0 < ge_ori (ge_PP X Y a) (ge_PP X Y b) (ge_PP X Y d))
    (hw : ge_Dd (ge_PP X Y a) (ge_PP X Y b) (ge_PP X Y c) (ge_PP X Y d) < 0) :
    ge_circ X Y a b c d ≤ 0 ∧ (ge_circ X Y a b c d = 0 →
      ¬ (d < a ∧ d < b ∧ d < c) ∧
      (a < b ∧ a < c ∧ a < d → 0 < ge_ori (ge_PP X Y b) (ge_PP X Y c) (ge_PP X Y d)) ∧
      (b < a ∧ b < c ∧ b < d → 0 < ge_ori (ge_PP X Y c) (ge_PP X Y a) (ge_PP X Y d))) := by
  have D := ge_DPP hx hy ha hb hc hd
  have b1 := ge_ori_bound (k := 1) (e := fun _ => 0) hx hy hb hc hd
  have b2 := ge_ori_bound (k := 1) (e := fun _ => 0) hx hy hc ha hd
  have b3 := ge_ori_bound (k := 1) (e := fun _ => 0) hx hy ha hb hd
  have b4 := ge_ori_bound (k := 1) (e := fun _ => 0) hx hy ha hb hc
  have ea := ge_eps_one a; have eb := ge_eps_one b; have ec := ge_eps_one c; have ed := ge_eps_one d
  have ll : ∀ i j, i < j → j < n → 35184372088832 * ge_eps j ≤ ge_eps i := fun i j h k => ge_eps_lt h (by omega)
  have sq : ∀ i j, i < n → j < n → i ≠ j → 1 ≤ (X i - X j) * (X i - X j) + (Y i - Y j) * (Y i - Y j) := by
    intro i j hi hj hne
    apply ge_sq_dist_pos
    rintro ⟨e1, e2⟩
    exact hne (inj i j hi hj e1 e2)
  refine ⟨?_, fun h0 => ?_⟩
  · apply Classical.byContradiction; intro hh
    have := D.1 (by omega); omega
  · have e := D.2.2 h0
    have by' := ge_bary (X := X) (Y := Y) a b c d
    rw [h0, Int.mul_zero] at by'
    rw [← ge_ori_Q0] at h1 h2
    rw [← ge_ori_Q0, ← ge_ori_Q0]
    have nbc : b ≠ c := by intro e; subst e; rw [ge_ori_abb] at h1; omega
    have nac : a ≠ c := by intro e; subst e; rw [ge_ori_aba] at h1; omega
    have q1 := sq b c hb hc nbc
    have q2 := sq c a hc ha (Ne.symm nac)
    -- d is c, if it lies on two of its lines
    have same : ge_ori (ge_Q0 X Y b) (ge_Q0 X Y c) (ge_Q0 X Y d) = 0 → ge_ori (ge_Q0 X Y c) (ge_Q0 X Y a) (ge_Q0 X Y d) = 0 → False := by
      intro k1 k2
      apply hcd
      apply inj c d hc hd
      · have i1 : ge_ori (ge_Q0 X Y a) (ge_Q0 X Y b) (ge_Q0 X Y c) * (X d - X c) =
            ge_ori (ge_Q0 X Y b) (ge_Q0 X Y c) (ge_Q0 X Y d) * (X a - X c) + ge_ori (ge_Q0 X Y c) (ge_Q0 X Y a) (ge_Q0 X Y d) * (X b - X c) := by
          unfold ge_ori ge_Q0 ge_lift; simp only [ge_mkp_x, ge_mkp_y]; grind
        rw [k1, k2] at i1
        have : ge_ori (ge_Q0 X Y a) (ge_Q0 X Y b) (ge_Q0 X Y c) * (X d - X c) = 0 := by omega
        rcases Int.mul_eq_zero.mp this with h | h <;> omega
      · have i1 : ge_ori (ge_Q0 X Y a) (ge_Q0 X Y b) (ge_Q0 X Y c) * (Y d - Y c) =
            ge_ori (ge_Q0 X Y b) (ge_Q0 X Y c) (ge_Q0 X Y d) * (Y a - Y c) + ge_ori (ge_Q0 X Y c) (ge_Q0 X Y a) (ge_Q0 X Y d) * (Y b - Y c) := by
          unfold ge_ori ge_Q0 ge_lift; simp only [ge_mkp_x, ge_mkp_y]; grind
        rw [k1, k2] at i1
        have : ge_ori (ge_Q0 X Y a) (ge_Q0 X Y b) (ge_Q0 X Y c) * (Y d - Y c) = 0 := by omega
        rcases Int.mul_eq_zero.mp this with h | h <;> omega
    revert b4; revert b3; revert b2; revert b1; revert same; revert h2; revert h1; revert by'; revert e
    unfold ge_Q0
    generalize ge_ori (ge_lift X Y 1 (fun _ => 0) a) (ge_lift X Y 1 (fun _ => 0) b) (ge_lift X Y 1 (fun _ => 0) c) = o4
    generalize ge_ori (ge_lift X Y 1 (fun _ => 0) a) (ge_lift X Y 1 (fun _ => 0) b) (ge_lift X Y 1 (fun _ => 0) d) = o3
    generalize ge_ori (ge_lift X Y 1 (fun _ => 0) c) (ge_lift X Y 1 (fun _ => 0) a) (ge_lift X Y 1 (fun _ => 0) d) = o2
    generalize ge_ori (ge_lift X Y 1 (fun _ => 0) b) (ge_lift X Y 1 (fun _ => 0) c) (ge_lift X Y 1 (fun _ => 0) d) = o1
    generalize (X b - X c) * (X b - X c) + (Y b - Y c) * (Y b - Y c) = z1 at *
    generalize (X c - X a) * (X c - X a) + (Y c - Y a) * (Y c - Y a) = z2 at *
    intro e by' h1 h2 same b1 b2 b3 b4
    refine ⟨?_, ?_, ?_⟩
    · rintro ⟨k1, k2, k3⟩
      have := ge_dom (e1 := ge_eps d) (e2 := ge_eps a) (e3 := ge_eps b) (e4 := ge_eps c) (o1 := o4) (o2 := -o1) (o3 := -o2) (o4 := -o3)
        (by omega) (by omega) (by omega) (by omega) ed ea eb ec (ll d a k1 ha) (ll d b k2 hb) (ll d c k3 hc)
      rw [Int.mul_neg, Int.mul_neg, Int.mul_neg] at this
      omega
    · rintro ⟨k1, k2, k3⟩
      apply Classical.byContradiction; intro hh
      rcases Int.lt_or_eq_of_le (Int.not_lt.mp hh) with g | g
      · have := ge_dom (e1 := ge_eps a) (e2 := ge_eps b) (e3 := ge_eps c) (e4 := ge_eps d) (o1 := -o1) (o2 := -o2) (o3 := -o3) (o4 := o4)
          (by omega) (by omega) (by omega) (by omega) ea eb ec ed (ll a b k1 hb) (ll a c k2 hc) (ll a d k3 hd)
        rw [Int.mul_neg, Int.mul_neg, Int.mul_neg] at this
        omega
      · subst g
        have m : o2 * o3 * z1 = 0 := by grind
        rcases Int.mul_eq_zero.mp m with m | m
        · rcases Int.mul_eq_zero.mp m with m | m
          · exact same rfl m
          · omega
        · omega
    · rintro ⟨k1, k2, k3⟩
      apply Classical.byContradiction; intro hh
      rcases Int.lt_or_eq_of_le (Int.not_lt.mp hh) with g | g
      · have := ge_dom (e1 := ge_eps b) (e2 := ge_eps a) (e3 := ge_eps c) (e4 := ge_eps d) (o1 := -o2) (o2 := -o1) (o3 := -o3) (o4 := o4)
          (by omega) (by omega) (by omega) (by omega) eb ea ec ed (ll b a k1 ha) (ll b c k2 hc) (ll b d k3 hd)
        rw [Int.mul_neg, Int.mul_neg, Int.mul_neg] at this
        omega
      · subst g
        have m : o3 * o1 * z2 = 0 := by grind
        rcases Int.mul_eq_zero.mp m with m | m
        · rcases Int.mul_eq_zero.mp m with m | m
          · omega
          · exact same m rfl
        · omega

/-- Those on one circle with the winner are on one circle with each other, and none is above them. -/
theorem ge_tied {a b c d e : Nat}
    (h1 : 0 < ge_ori (ge_PP X Y a) (ge_PP X Y b) (ge_PP X Y c)) (h2 : 0 < ge_ori (ge_PP X Y a) (ge_PP X Y b) (ge_PP X Y d))
    (h0 : ge_circ X Y a b d c = 0) :
    (ge_circ X Y a b c e ≤ 0 → ge_circ X Y a b d e ≤ 0) ∧ (ge_circ X Y a b d e = 0 ↔ ge_circ X Y a b c e = 0) := by
  have g := ge_Dd_gp (ge_Q0 X Y a) (ge_Q0 X Y b) (ge_Q0 X Y d) (ge_Q0 X Y c) (ge_Q0 X Y e)
  rw [← ge_ori_Q0] at h1 h2
  have g' : ge_ori (ge_Q0 X Y a) (ge_Q0 X Y b) (ge_Q0 X Y e) * ge_circ X Y a b d c - ge_ori (ge_Q0 X Y a) (ge_Q0 X Y b) (ge_Q0 X Y c) * ge_circ X Y a b d e
    + ge_ori (ge_Q0 X Y a) (ge_Q0 X Y b) (ge_Q0 X Y d) * ge_circ X Y a b c e = 0 := g
  rw [h0, Int.mul_zero] at g'
  refine ⟨fun k => ?_, fun k => ?_, fun k => ?_⟩
  · have m := Int.mul_nonneg (show 0 ≤ ge_ori (ge_Q0 X Y a) (ge_Q0 X Y b) (ge_Q0 X Y d) by omega) (show 0 ≤ -ge_circ X Y a b c e by omega)
    rw [Int.mul_neg] at m
    exact ge_nonpos_of_mul h1 (by omega)
  · rw [k, Int.mul_zero] at g'
    rcases Int.mul_eq_zero.mp (show ge_ori (ge_Q0 X Y a) (ge_Q0 X Y b) (ge_Q0 X Y d) * ge_circ X Y a b c e = 0 by omega) with m | m
    · omega
    · exact m
  · rw [k, Int.mul_zero] at g'
    rcases Int.mul_eq_zero.mp (show ge_ori (ge_Q0 X Y a) (ge_Q0 X Y b) (ge_Q0 X Y c) * ge_circ X Y a b d e = 0 by omega) with m | m
    · omega
    · exact m
theorem ge_circ_swap (a b c d : Nat) : ge_circ X Y a b d c = - ge_circ X Y a b c d := by
  unfold ge_circ; exact ge_Dd_swap34 _ _ _ _
end
