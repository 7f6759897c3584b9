/-- The triangles between drawn sides. -/
def ge_TE (n : Nat) (P : Nat → ge_Pt) (E : Nat → Nat → Prop) (a b c : Nat) : Prop :=
  E a b ∧ E b c ∧ E c a ∧ 0 < ge_ori (P a) (P b) (P c) ∧
  ∀ v, v < n → ¬ (0 < ge_ori (P a) (P b) (P v) ∧ 0 < ge_ori (P b) (P c) (P v) ∧ 0 < ge_ori (P c) (P a) (P v))

/-- Not all on one line. -/
def ge_Spread (n : Nat) (P : Nat → ge_Pt) : Prop := ∃ i j k, i < n ∧ j < n ∧ k < n ∧ ge_ori (P i) (P j) (P k) ≠ 0

/-- Some vertex lies off the line through two others. -/
theorem ge_off_line {n : Nat} {P : Nat → ge_Pt} (inj : ge_Inj n P) (sp : ge_Spread n P) {a b : Nat} (ha : a < n) (hb : b < n) (hab : a ≠ b) :
    ∃ v, v < n ∧ ge_ori (P a) (P b) (P v) ≠ 0 := by
  apply Classical.byContradiction; intro hn
  have hz : ∀ v, v < n → ge_ori (P a) (P b) (P v) = 0 := by
    intro v hv
    apply Classical.byContradiction; intro h
    exact hn ⟨v, hv, h⟩
  obtain ⟨i, j, k, hi, hj, hk, hne⟩ := sp
  have z1 := hz i hi; have z2 := hz j hj; have z3 := hz k hk
  have ex : ge_ori (P i) (P j) (P k) * ((P b).x - (P a).x) = 0 := by
    have : ge_ori (P i) (P j) (P k) * ((P b).x - (P a).x) =
      ge_ori (P a) (P b) (P i) * ((P k).x - (P j).x) + ge_ori (P a) (P b) (P j) * ((P i).x - (P k).x)
      + ge_ori (P a) (P b) (P k) * ((P j).x - (P i).x) := by unfold ge_ori; grind
    rw [this, z1, z2, z3]; simp
  have ey : ge_ori (P i) (P j) (P k) * ((P b).y - (P a).y) = 0 := by
    have : ge_ori (P i) (P j) (P k) * ((P b).y - (P a).y) =
      ge_ori (P a) (P b) (P i) * ((P k).y - (P j).y) + ge_ori (P a) (P b) (P j) * ((P i).y - (P k).y)
      + ge_ori (P a) (P b) (P k) * ((P j).y - (P i).y) := by unfold ge_ori; grind
    rw [this, z1, z2, z3]; simp
  apply hab
  apply inj a b ha hb
  · rcases Int.mul_eq_zero.mp ex with h | h
    · exact absurd h hne
    · omega
  · rcases Int.mul_eq_zero.mp ey with h | h
    · exact absurd h hne
    · omega

theorem ge_Plan.any {n : Nat} {P : Nat → ge_Pt} {E : Nat → Nat → Prop} (Pl : ge_Plan n P E) (inj : ge_Inj n P) {a c0 : Nat} (ha : a < n) (hc0 : c0 < n) (hne : c0 ≠ a) : ∃ w, E a w := by
  classical
  obtain ⟨c, hc, cmax⟩ := ge_fin_max ((List.range n).filter fun x => decide (x ≠ a))
    (fun x y => ((P y).x - (P a).x).natAbs + ((P y).y - (P a).y).natAbs <
      ((P x).x - (P a).x).natAbs + ((P x).y - (P a).y).natAbs) (fun x h => by omega) (fun x y z h k => by omega)
    c0 (by simp only [List.mem_filter, List.mem_range, decide_eq_true_eq]; exact ⟨hc0, hne⟩)
  simp only [List.mem_filter, List.mem_range, decide_eq_true_eq] at hc cmax
  have clr : ge_Clear n P a c := by
    intro v hv n1 n2 hb
    refine cmax v ⟨hv, n1⟩ ?_
    have hneq : ¬ ((P v).x = (P c).x ∧ (P v).y = (P c).y) := fun h => n2 (inj v c hv hc.1 h.1 h.2)
    obtain ⟨_, h1, h2, h3, h4⟩ := hb
    omega
  rcases Pl.toward inj ha hc.1 (Ne.symm hc.2) clr with h | ⟨u, v, w, _, _, h, _⟩
  · exact ⟨c, h⟩
  · exact ⟨w, h⟩

theorem ge_Plan.tri {n : Nat} {P : Nat → ge_Pt} {E : Nat → Nat → Prop} (Pl : ge_Plan n P E) (inj : ge_Inj n P) {a b v0 : Nat} (hab : E a b) (hv0 : v0 < n) (hp0 : 0 < ge_ori (P a) (P b) (P v0)) :
    ∃ c, ge_TE n P E a b c := by
  obtain ⟨c, h1, h2, h3, h4⟩ := Pl.over inj hab hv0 hp0
  refine ⟨c, hab, h2, Pl.symm h1, h3, ?_⟩
  rintro v hv ⟨k1, k2, k3⟩
  refine h4 v hv ?_ ?_ ?_ ⟨by omega, by omega, by omega⟩
  · intro e; subst e; rw [ge_ori_aba] at k1; omega
  · intro e; subst e; rw [ge_ori_abb] at k1; omega
  · intro e; subst e; rw [ge_ori_aba] at k3; omega

theorem ge_Plan.edge {n : Nat} {P : Nat → ge_Pt} {E : Nat → Nat → Prop} (Pl : ge_Plan n P E) (inj : ge_Inj n P) (sp : ge_Spread n P) {a b : Nat} (hab : E a b) : ge_Edge (ge_TE n P E) a b := by
  have l := Pl.lt hab
  obtain ⟨v, hv, hne⟩ := ge_off_line inj sp l.1 l.2 (Pl.ne hab)
  rcases Int.lt_or_gt_of_ne hne with h | h
  · obtain ⟨c, hc⟩ := Pl.tri inj (Pl.symm hab) hv (by have := ge_swp (P a) (P b) (P v); omega)
    exact ⟨c, Or.inr hc⟩
  · obtain ⟨c, hc⟩ := Pl.tri inj hab hv h
    exact ⟨c, Or.inl hc⟩

theorem ge_TE_rot {n : Nat} {P : Nat → ge_Pt} {E : Nat → Nat → Prop} (Pl : ge_Plan n P E) (inj : ge_Inj n P) {a b c : Nat} (h : ge_TE n P E a b c) : ge_TE n P E b c a := by
  obtain ⟨h1, h2, h3, h4, h5⟩ := h
  refine ⟨h2, h3, h1, by rw [ge_rot]; exact h4, ?_⟩
  intro v hv k
  exact h5 v hv ⟨k.2.2, k.1, k.2.1⟩

theorem ge_TE_uni {n : Nat} {P : Nat → ge_Pt} {E : Nat → Nat → Prop} (Pl : ge_Plan n P E) (inj : ge_Inj n P) {a b c d : Nat} (h : ge_TE n P E a b c) (k : ge_TE n P E a b d) : c = d := by
  apply Classical.byContradiction; intro hcd
  obtain ⟨h1, h2, h3, h4, h5⟩ := h
  obtain ⟨k1, k2, k3, k4, k5⟩ := k
  have lc := Pl.lt h2; have ld := Pl.lt k2
  refine ge_two_tri h4 k4 (h5 d ld.2) (k5 c lc.2) (Pl.cross (Pl.symm h3) k2) (Pl.cross (Pl.symm k3) h2) ?_ ?_
  · intro hz
    apply hcd
    exact ge_ray_same (x := b) ld.2 lc.2 (Pl.ne k3).symm (Pl.ne h3).symm (Pl.clear (Pl.symm k3)) (Pl.clear (Pl.symm h3)) hz h4 k4
  · intro hz
    apply hcd
    have e1 := ge_swp (P a) (P b) (P c)
    have e2 := ge_swp (P a) (P b) (P d)
    exact ge_ray_same' (x := a) ld.2 lc.2 (Pl.ne k2) (Pl.ne h2) (Pl.clear k2) (Pl.clear h2) hz (by omega) (by omega)

theorem ge_Plan.mesh {n : Nat} {P : Nat → ge_Pt} {E : Nat → Nat → Prop} (Pl : ge_Plan n P E) (inj : ge_Inj n P) (sp : ge_Spread n P) : ge_Mesh n P (ge_TE n P E) := by
  refine ge_Mesh.mk (fun h => ⟨(Pl.lt h.1).1, (Pl.lt h.1).2, (Pl.lt h.2.1).2⟩) (fun h => h.2.2.2.1)
    (fun h => ge_TE_rot Pl inj h) (fun h k => ge_TE_uni Pl inj h k) (fun h hv hp => Pl.tri inj (Pl.symm h.1) hv hp)
    (fun h hv n1 n2 => Pl.clear h.1 _ hv n1 n2) (fun h k => Pl.cross h.1 k.1) (fun h hv => h.2.2.2.2 _ hv) ?full
  case full =>
    intro a ha
    obtain ⟨i, j, k, hi, hj, hk, hne⟩ := sp
    have : ∃ c, c < n ∧ c ≠ a := by
      by_cases h : i = a
      · refine ⟨j, hj, ?_⟩
        intro e; apply hne; rw [h, e, ge_ori_aab]
      · exact ⟨i, hi, h⟩
    obtain ⟨c, hc, hca⟩ := this
    obtain ⟨w, hw⟩ := Pl.any inj ha hc hca
    obtain ⟨x, h | h⟩ := Pl.edge inj ⟨i, j, k, hi, hj, hk, hne⟩ hw
    · exact ⟨w, x, h⟩
    · exact ⟨x, w, ge_TE_rot Pl inj h⟩
