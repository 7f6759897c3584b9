/-- A vertex at an end of the row has an outermost side on either hand. -/
theorem ge_outer {n : Nat} {P : Nat → ge_Pt} {E : Nat → Nat → Prop} (Pl : ge_Plan n P E) (inj : ge_Inj n P) {K : Int} (hK : ∀ i j, i < n → j < n → ge_el K (P i) = ge_el K (P j) → i = j) {m : Nat} (sgn : Int) (hs : sgn = 1 ∨ sgn = -1) (hm : m < n) (hne : ∃ c, c < n ∧ c ≠ m)
    (hmin : ∀ i, i < n → i ≠ m → 0 < sgn * (ge_el K (P i) - ge_el K (P m))) :
    (∃ r, ge_Hull n P E m r) ∧ (∃ r, ge_Hull n P E r m) := by
  classical
  obtain ⟨c, hc, hcm⟩ := hne
  obtain ⟨w, hw⟩ := Pl.any inj hm hc hcm
  have tr : ∀ x y z, (E m x ∧ E m y ∧ 0 < ge_ori (P m) (P x) (P y)) → (E m y ∧ E m z ∧ 0 < ge_ori (P m) (P y) (P z)) →
      (E m x ∧ E m z ∧ 0 < ge_ori (P m) (P x) (P z)) := by
    rintro x y z ⟨h1, h2, h3⟩ ⟨_, k2, k3⟩
    refine ⟨h1, k2, ?_⟩
    have i := ge_lin3 K (P m) (P x) (P y) (P z)
    have a1 := hmin x (Pl.lt h1).2 (Pl.ne h1).symm
    have a2 := hmin y (Pl.lt h2).2 (Pl.ne h2).symm
    have a3 := hmin z (Pl.lt k2).2 (Pl.ne k2).symm
    have m1 := ge_mpp a1 k3
    have m2 := ge_mpp a3 h3
    apply ge_pos_of_mul a2
    rcases hs with e | e <;> subst e <;> grind
  constructor
  · obtain ⟨r, hr, rmax⟩ := ge_fin_max ((List.range n).filter fun x => decide (E m x))
      (fun x y => E m x ∧ E m y ∧ 0 < ge_ori (P m) (P x) (P y)) (by intro x h; rw [ge_ori_abb] at h; omega) tr
      w (by simp only [List.mem_filter, List.mem_range, decide_eq_true_eq]; exact ⟨(Pl.lt hw).2, hw⟩)
    simp only [List.mem_filter, List.mem_range, decide_eq_true_eq] at hr rmax
    refine ⟨r, hr.2, ?_⟩
    intro z hz
    exact rmax z ⟨(Pl.lt hz.2.1).2, Pl.symm hz.2.2.1⟩ ⟨hr.2, Pl.symm hz.2.2.1, hz.2.2.2.1⟩
  · obtain ⟨r, hr, rmax⟩ := ge_fin_max ((List.range n).filter fun x => decide (E m x))
      (fun x y => E m y ∧ E m x ∧ 0 < ge_ori (P m) (P y) (P x)) (by intro x h; rw [ge_ori_abb] at h; omega)
      (fun x y z h k => tr z y x k h)
      w (by simp only [List.mem_filter, List.mem_range, decide_eq_true_eq]; exact ⟨(Pl.lt hw).2, hw⟩)
    simp only [List.mem_filter, List.mem_range, decide_eq_true_eq] at hr rmax
    refine ⟨r, Pl.symm hr.2, ?_⟩
    intro z hz
    refine rmax z ⟨(Pl.lt hz.2.1).2, hz.2.1⟩ ⟨hz.2.1, hr.2, ?_⟩
    have := hz.2.2.2.1
    have := ge_rot (P r) (P m) (P z)
    omega

theorem ge_hull_three {n : Nat} {P : Nat → ge_Pt} {E : Nat → Nat → Prop} (Pl : ge_Plan n P E) (inj : ge_Inj n P) {K : Int} (hK : ∀ i j, i < n → j < n → ge_el K (P i) = ge_el K (P j) → i = j) (sp : ge_Spread n P) : 3 ≤ ge_cnt2 n (ge_Hull n P E) := by
  obtain ⟨i, j, k, hi, hj, hk, hne⟩ := id sp
  have hij : i ≠ j := by intro e; subst e; rw [ge_ori_aab] at hne; omega
  have hn : 0 < n := by omega
  obtain ⟨m, hm, hmin⟩ := ge_row_min Pl inj hK hn
  obtain ⟨M, hM, hmax⟩ := ge_row_max Pl inj hK hn
  have other : ∀ q, ∃ c, c < n ∧ c ≠ q := by
    intro q
    by_cases e : i = q
    · exact ⟨j, hj, by omega⟩
    · exact ⟨i, hi, e⟩
  have o1 := ge_outer Pl inj hK (m := m) 1 (Or.inl rfl) hm (other m) (by
    intro x hx hne
    have := hmin x hx
    have : ge_el K (P m) ≠ ge_el K (P x) := fun e => hne (hK m x hm hx e).symm
    omega)
  have o2 := ge_outer Pl inj hK (m := M) (-1) (Or.inr rfl) hM (other M) (by
    intro x hx hne
    have := hmax x hx
    have : ge_el K (P M) ≠ ge_el K (P x) := fun e => hne (hK M x hM hx e).symm
    omega)
  obtain ⟨⟨r1, h1⟩, r2, h2⟩ := o1
  obtain ⟨⟨p2, k2⟩, p1, k1⟩ := o2
  have l1 := Pl.lt h1.1; have l2 := Pl.lt h2.1; have g1 := Pl.lt k1.1; have g2 := Pl.lt k2.1
  have n1 := Pl.ne h1.1; have n2 := Pl.ne h2.1
  have hmM : m ≠ M := by
    intro e
    have : ge_el K (P i) = ge_el K (P j) := by
      have a1 := hmin i hi; have a2 := hmax i hi; have a3 := hmin j hj; have a4 := hmax j hj
      rw [e] at a1 a3; omega
    exact hij (hK i j hi hj this)
  by_cases c1 : m = p1 ∧ r1 = M
  · by_cases c2 : r2 = M ∧ m = p2
    · exfalso
      obtain ⟨v, hv, hvne⟩ := ge_off_line inj sp hm hM hmM
      rw [c1.2] at h1
      rw [c2.1] at h2
      have a1 := ge_hull_right Pl inj h1 hv
      have a2 := ge_hull_right Pl inj h2 hv
      have := ge_swp (P m) (P M) (P v)
      omega
    · exact ge_cnt2_three l1.1 l1.2 l2.1 l2.2 g2.1 g2.2 h1 h2 k2 (by omega) (by omega) (by omega)
  · exact ge_cnt2_three l1.1 l1.2 l2.1 l2.2 g1.1 g1.2 h1 h2 k1 (by omega) (by omega) (by omega)

theorem ge_mid_le {n : Nat} {P : Nat → ge_Pt} {E : Nat → Nat → Prop} (Pl : ge_Plan n P E) (inj : ge_Inj n P) {K : Int} (hK : ∀ i j, i < n → j < n → ge_el K (P i) = ge_el K (P j) → i = j) (sp : ge_Spread n P) : ge_cnt3 n (ge_MidT n P E K) ≤ 2 * n - 5 := by
  obtain ⟨i, _, _, hi, _⟩ := id sp
  have := ge_slots Pl inj hK (by omega)
  have := ge_hull_three Pl inj hK sp
  omega

theorem ge_edges_le {n : Nat} {P : Nat → ge_Pt} {E : Nat → Nat → Prop} (Pl : ge_Plan n P E) (inj : ge_Inj n P) {K : Int} (hK : ∀ i j, i < n → j < n → ge_el K (P i) = ge_el K (P j) → i = j) (sp : ge_Spread n P) : ge_cnt2 n E ≤ 6 * n - 12 := by
  obtain ⟨i, _, _, hi, _⟩ := id sp
  have a := ge_slots Pl inj hK (by omega)
  have b := ge_hull_three Pl inj hK sp
  have c := ge_mid_three Pl inj hK
  have d := ge_edges_count Pl inj hK
  omega
