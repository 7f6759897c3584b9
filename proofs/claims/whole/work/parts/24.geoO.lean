/-- A way to put points in a row. -/
def ge_el (K : Int) (p : ge_Pt) : Int := K * p.x + p.y

theorem ge_lin3 (K : Int) (v a b c : ge_Pt) :
    (ge_el K a - ge_el K v) * ge_ori v b c - (ge_el K b - ge_el K v) * ge_ori v a c + (ge_el K c - ge_el K v) * ge_ori v a b = 0 := by
  unfold ge_el ge_ori; grind

theorem ge_el_lin (K : Int) (z : ge_Pt) : ge_el K z = K * z.x + 1 * z.y + 0 := by unfold ge_el; omega

theorem ge_ray_el {n : Nat} {P : Nat → ge_Pt} {K : Int} {v a b : Nat} (ha : a < n) (hb : b < n) (hva : v ≠ a) (hvb : v ≠ b)
    (ca : ge_Clear n P v a) (cb : ge_Clear n P v b) (h0 : ge_ori (P v) (P a) (P b) = 0)
    (h1 : ge_el K (P v) < ge_el K (P a)) (h2 : ge_el K (P v) < ge_el K (P b)) : a = b := by
  apply Classical.byContradiction; intro hne
  have e1 := ge_rot2 (P v) (P a) (P b)
  have e2 := ge_swp2 (P v) (P a) (P b)
  have e3 := ge_rot2 (P v) (P b) (P a)
  rcases Int.le_total (ge_el K (P a)) (ge_el K (P b)) with h | h
  · exact cb a ha (Ne.symm hva) hne (ge_Btw_comm (ge_btw_of_side (ge_el K) K 1 0 (ge_el_lin K) (by omega) (by omega) (by omega) (by omega)))
  · exact ca b hb (Ne.symm hvb) (Ne.symm hne) (ge_Btw_comm (ge_btw_of_side (ge_el K) K 1 0 (ge_el_lin K) (by omega) (by omega) (by omega) (by omega)))

/-- No side runs into a triangle from one of its corners. -/
theorem ge_cone_free {n : Nat} {P : Nat → ge_Pt} {E : Nat → Nat → Prop} (Pl : ge_Plan n P E) (inj : ge_Inj n P) {v x y z : Nat} (ht : ge_TE n P E v x y) (hz : E v z) (h1 : 0 < ge_ori (P v) (P x) (P z))
    (h2 : 0 < ge_ori (P v) (P z) (P y)) : False := by
  obtain ⟨e1, e2, e3, hp, hem⟩ := ht
  have lz := Pl.lt hz
  have s1 := ge_swp2 (P v) (P z) (P y)
  have s2 := ge_swp2 (P v) (P x) (P z)
  have s3 := ge_swp (P v) (P y) (P z)
  rcases Int.lt_trichotomy (ge_ori (P x) (P y) (P z)) 0 with h | h | h
  · refine Pl.cross e2 hz (ge_Xs_Cr (p := P x) (q := P y) (u := P v) (v := P z) ⟨by rw [ge_rot]; exact hp, h, by omega, by omega⟩)
  · refine Pl.clear e2 z lz.2 ?_ ?_ ?_
    · intro e; subst e; rw [ge_ori_abb] at h1; omega
    · intro e; subst e; rw [ge_ori_abb] at h2; omega
    · have e5 := ge_swp (P v) (P z) (P x)
      have e6 := ge_swp (P v) (P z) (P y)
      have e7 := ge_ori_aba (P z) (P v)
      exact ge_btw_ori (p := P z) (q := P v) h (by omega) (by omega) (by omega)
  · exact hem z lz.2 ⟨h1, h, by omega⟩

def ge_Hull (n : Nat) (P : Nat → ge_Pt) (E : Nat → Nat → Prop) (a b : Nat) : Prop := E a b ∧ ∀ c, ¬ ge_TE n P E a b c

theorem ge_hull_right {n : Nat} {P : Nat → ge_Pt} {E : Nat → Nat → Prop} (Pl : ge_Plan n P E) (inj : ge_Inj n P) {a b x : Nat} (h : ge_Hull n P E a b) (hx : x < n) : ge_ori (P a) (P b) (P x) ≤ 0 := by
  apply Classical.byContradiction; intro hn
  obtain ⟨c, hc⟩ := Pl.tri inj h.1 hx (by omega)
  exact h.2 c hc

theorem ge_up_uni {n : Nat} {P : Nat → ge_Pt} {E : Nat → Nat → Prop} (Pl : ge_Plan n P E) (inj : ge_Inj n P) {K : Int} {v a c a' c' : Nat} (h : ge_TE n P E a v c) (h' : ge_TE n P E a' v c')
    (l1 : ge_el K (P a) < ge_el K (P v)) (l2 : ge_el K (P v) < ge_el K (P c))
    (l1' : ge_el K (P a') < ge_el K (P v)) (l2' : ge_el K (P v) < ge_el K (P c')) : a = a' ∧ c = c' := by
  have t := ge_TE_rot Pl inj h
  have t' := ge_TE_rot Pl inj h'
  have p := t.2.2.2.1; have p' := t'.2.2.2.1
  have i1 := ge_lin3 K (P v) (P c) (P c') (P a)
  have i2 := ge_lin3 K (P v) (P c') (P c) (P a')
  have s := ge_swp2 (P v) (P c) (P c')
  rcases Int.lt_trichotomy (ge_ori (P v) (P c) (P c')) 0 with k | k | k
  · exfalso
    apply ge_cone_free Pl inj t' t.1 (by omega)
    have m1 := ge_mpp (show 0 < ge_el K (P c) - ge_el K (P v) by omega) p'
    have m2 := ge_mnn (show ge_el K (P a') - ge_el K (P v) < 0 by omega) k
    exact ge_pos_of_mul (a := ge_el K (P c') - ge_el K (P v)) (by omega) (by rw [s] at i2; rw [Int.mul_neg] at i2; omega)
  · have hc : c = c' := ge_ray_el (K := K) (Pl.lt t.1).2 (Pl.lt t'.1).2 (Pl.ne t.1) (Pl.ne t'.1) (Pl.clear t.1) (Pl.clear t'.1) k l2 l2'
    subst hc
    exact ⟨ge_TE_uni Pl inj t t', rfl⟩
  · exfalso
    apply ge_cone_free Pl inj t t'.1 (by omega)
    have m1 := ge_mpp (show 0 < ge_el K (P c') - ge_el K (P v) by omega) p
    have m2 := ge_mnp (show ge_el K (P a) - ge_el K (P v) < 0 by omega) k
    exact ge_pos_of_mul (a := ge_el K (P c) - ge_el K (P v)) (by omega) (by omega)

theorem ge_down_uni {n : Nat} {P : Nat → ge_Pt} {E : Nat → Nat → Prop} (Pl : ge_Plan n P E) (inj : ge_Inj n P) {K : Int} {v a c a' c' : Nat} (h : ge_TE n P E a v c) (h' : ge_TE n P E a' v c')
    (l1 : ge_el K (P c) < ge_el K (P v)) (l2 : ge_el K (P v) < ge_el K (P a))
    (l1' : ge_el K (P c') < ge_el K (P v)) (l2' : ge_el K (P v) < ge_el K (P a')) : a = a' ∧ c = c' := by
  have t := ge_TE_rot Pl inj h
  have t' := ge_TE_rot Pl inj h'
  -- t : v c a, c ahead of v in the row backwards
  have p := t.2.2.2.1; have p' := t'.2.2.2.1
  have eva : E v a := Pl.symm h.1
  have eva' : E v a' := Pl.symm h'.1
  have i1 := ge_lin3 K (P v) (P a') (P c) (P a)
  have i2 := ge_lin3 K (P v) (P a) (P c') (P a')
  have j1 := ge_lin3 K (P v) (P a) (P c) (P a')
  have j2 := ge_lin3 K (P v) (P a') (P c') (P a)
  have s := ge_swp2 (P v) (P a) (P a')
  have s1 := ge_swp2 (P v) (P c) (P a)
  have s2 := ge_swp2 (P v) (P c') (P a')
  rcases Int.lt_trichotomy (ge_ori (P v) (P a) (P a')) 0 with k | k | k
  · -- a' lies clockwise of a: inside the angle c v a
    exfalso
    apply ge_cone_free Pl inj t eva' _ (by omega)
    have m1 := ge_mpp (show 0 < ge_el K (P a') - ge_el K (P v) by omega) p
    have m2 := ge_mnn (show ge_el K (P c) - ge_el K (P v) < 0 by omega) k
    exact ge_pos_of_mul (a := ge_el K (P a) - ge_el K (P v)) (by omega) (by
      rw [s1] at j1; rw [Int.mul_neg] at j1; omega)
  · have hc : a = a' := ge_ray_el (K := K) (Pl.lt eva).2 (Pl.lt eva').2 (Pl.ne eva) (Pl.ne eva') (Pl.clear eva) (Pl.clear eva') k l2 l2'
    subst hc
    exact ⟨rfl, ge_TE_uni Pl inj h h'⟩
  · exfalso
    apply ge_cone_free Pl inj t' eva _ k
    have m1 := ge_mpp (show 0 < ge_el K (P a) - ge_el K (P v) by omega) p'
    have m2 := ge_mnn (show ge_el K (P c') - ge_el K (P v) < 0 by omega) (show ge_ori (P v) (P a') (P a) < 0 by omega)
    exact ge_pos_of_mul (a := ge_el K (P a') - ge_el K (P v)) (by omega) (by
      rw [s2] at j2; rw [Int.mul_neg] at j2; omega)

theorem ge_up_hull {n : Nat} {P : Nat → ge_Pt} {E : Nat → Nat → Prop} (Pl : ge_Plan n P E) (inj : ge_Inj n P) {K : Int} {v a c b : Nat} (h : ge_TE n P E a v c) (l1 : ge_el K (P a) < ge_el K (P v)) (l2 : ge_el K (P v) < ge_el K (P c))
    (hb : ge_Hull n P E v b) (l3 : ge_el K (P v) < ge_el K (P b)) : False := by
  have t := ge_TE_rot Pl inj h
  have p := t.2.2.2.1
  have k1 := ge_hull_right Pl inj hb (Pl.lt h.1).1
  have k2 := ge_hull_right Pl inj hb (Pl.lt h.2.1).2
  have i := ge_lin3 K (P v) (P b) (P c) (P a)
  have m1 := ge_mpp (show 0 < ge_el K (P b) - ge_el K (P v) by omega) p
  have m2 := Int.mul_nonneg (show 0 ≤ ge_el K (P c) - ge_el K (P v) by omega) (show 0 ≤ -(ge_ori (P v) (P b) (P a)) by omega)
  have m3 := Int.mul_nonneg (show 0 ≤ -(ge_el K (P a) - ge_el K (P v)) by omega) (show 0 ≤ -(ge_ori (P v) (P b) (P c)) by omega)
  rw [Int.mul_neg] at m2
  rw [Int.neg_mul_neg] at m3
  omega

theorem ge_down_hull {n : Nat} {P : Nat → ge_Pt} {E : Nat → Nat → Prop} (Pl : ge_Plan n P E) (inj : ge_Inj n P) {K : Int} {v a c b : Nat} (h : ge_TE n P E a v c) (l1 : ge_el K (P c) < ge_el K (P v)) (l2 : ge_el K (P v) < ge_el K (P a))
    (hb : ge_Hull n P E b v) (l3 : ge_el K (P v) < ge_el K (P b)) : False := by
  have t := ge_TE_rot Pl inj h
  have p := t.2.2.2.1
  have k1 := ge_hull_right Pl inj hb (Pl.lt h.1).1
  have k2 := ge_hull_right Pl inj hb (Pl.lt h.2.1).2
  have s1 := ge_swp (P v) (P b) (P a)
  have s2 := ge_swp (P v) (P b) (P c)
  have i := ge_lin3 K (P v) (P b) (P c) (P a)
  have m1 := ge_mpp (show 0 < ge_el K (P b) - ge_el K (P v) by omega) p
  have m2 := Int.mul_nonneg (show 0 ≤ -(ge_el K (P c) - ge_el K (P v)) by omega) (show 0 ≤ ge_ori (P v) (P b) (P a) by omega)
  have m3 := Int.mul_nonneg (show 0 ≤ ge_el K (P a) - ge_el K (P v) by omega) (show 0 ≤ ge_ori (P v) (P b) (P c) by omega)
  rw [Int.neg_mul] at m2
  omega

theorem ge_hull_up_uni {n : Nat} {P : Nat → ge_Pt} {E : Nat → Nat → Prop} (Pl : ge_Plan n P E) (inj : ge_Inj n P) {K : Int} {v b b' : Nat} (h : ge_Hull n P E v b) (h' : ge_Hull n P E v b')
    (l : ge_el K (P v) < ge_el K (P b)) (l' : ge_el K (P v) < ge_el K (P b')) : b = b' := by
  have k1 := ge_hull_right Pl inj h (Pl.lt h'.1).2
  have k2 := ge_hull_right Pl inj h' (Pl.lt h.1).2
  have s := ge_swp2 (P v) (P b) (P b')
  exact ge_ray_el (K := K) (Pl.lt h.1).2 (Pl.lt h'.1).2 (Pl.ne h.1) (Pl.ne h'.1) (Pl.clear h.1) (Pl.clear h'.1) (by omega) l l'

theorem ge_hull_down_uni {n : Nat} {P : Nat → ge_Pt} {E : Nat → Nat → Prop} (Pl : ge_Plan n P E) (inj : ge_Inj n P) {K : Int} {v b b' : Nat} (h : ge_Hull n P E b v) (h' : ge_Hull n P E b' v)
    (l : ge_el K (P v) < ge_el K (P b)) (l' : ge_el K (P v) < ge_el K (P b')) : b = b' := by
  have k1 := ge_hull_right Pl inj h (Pl.lt h'.1).1
  have k2 := ge_hull_right Pl inj h' (Pl.lt h.1).1
  have s := ge_swp (P v) (P b) (P b')
  have s1 := ge_swp (P v) (P b') (P b)
  have s2 := ge_swp2 (P v) (P b) (P b')
  exact ge_ray_el (K := K) (Pl.lt h.1).1 (Pl.lt h'.1).1 (Pl.ne h.1).symm (Pl.ne h'.1).symm
    (Pl.clear (Pl.symm h.1)) (Pl.clear (Pl.symm h'.1)) (by omega) l l'
