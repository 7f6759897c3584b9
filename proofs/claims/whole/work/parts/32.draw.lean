/-! drawing sides in turn, until none fits -/
section
variable {n : Nat} {P : Nat → ge_Pt} {L E : Nat → Nat → Prop}
def ec_J (n : Nat) (P : Nat → ge_Pt) (L E : Nat → Nat → Prop) (a b : Nat) : Prop :=
  ge_Pre n P E ∧ (∀ x y, L x y → E x y) ∧ ∀ x y, x < y → y < n → (x < a ∨ (x = a ∧ y < b)) → ge_Clear n P x y → (∀ c d, E c d → ¬ ge_Cr (P x) (P y) (P c) (P d)) → E x y
theorem ec_J_add {a b : Nat} (h : ec_J n P L E a b) (hab : a < b) (hb : b < n) (clr : ge_Clear n P a b) (nx : ∀ c d, E c d → ¬ ge_Cr (P a) (P b) (P c) (P d)) :
    ec_J n P L (ge_addE E a b) a (b + 1) := by
  refine ⟨h.1.add (by omega) hb (by omega) clr nx, fun x y q => Or.inl (h.2.1 x y q), fun x y hxy hy hd hc hn => ?_⟩
  by_cases e : x = a ∧ y = b
  · exact Or.inr (Or.inl e)
  · exact Or.inl (h.2.2 x y hxy hy (by omega) hc (fun c d q => hn c d (Or.inl q)))
theorem ec_J_skip {a b : Nat} (h : ec_J n P L E a b) (hr : ¬ (¬ E a b ∧ ge_Clear n P a b ∧ ∀ c d, E c d → ¬ ge_Cr (P a) (P b) (P c) (P d))) :
    ec_J n P L E a (b + 1) := by
  refine ⟨h.1, h.2.1, fun x y hxy hy hd hc hn => ?_⟩
  by_cases e : x = a ∧ y = b
  · obtain ⟨rfl, rfl⟩ := e
    apply Classical.byContradiction; intro q
    exact hr ⟨q, hc, hn⟩
  · exact h.2.2 x y hxy hy (by omega) hc hn
theorem ec_J_row {a b : Nat} (h : ec_J n P L E a b) (hb : n ≤ b) : ec_J n P L E (a + 1) (a + 1 + 1) :=
  ⟨h.1, h.2.1, fun x y hxy hy hd hc hn => h.2.2 x y hxy hy (by omega) hc hn⟩
theorem ec_J_start (h : ge_Pre n P L) : ec_J n P L L 0 (0 + 1) := ⟨h, fun _ _ q => q, fun x y hxy hy hd hc hn => by omega⟩
theorem ec_J_iff {E' : Nat → Nat → Prop} {a b : Nat} (e : ∀ x y, E x y ↔ E' x y) (h : ec_J n P L E a b) : ec_J n P L E' a b := by
  have : E = E' := by funext x y; exact propext (e x y)
  rw [← this]; exact h
theorem ec_J_end {a b : Nat} (h : ec_J n P L E a b) (ha : n ≤ a) : ge_Plan n P E := by
  refine ge_Pre.toPlan h.1 ?_
  intro x y hx hy hxy hc hn
  rcases Nat.lt_or_gt_of_ne hxy with q | q
  · exact h.2.2 x y q hy (Or.inl (by omega)) hc hn
  · exact h.1.symm (h.2.2 y x q hx (Or.inl (by omega)) hc.symm (fun c d k z => hn c d k (ge_Cr_comm z)))
theorem ec_J_room {a b k : Nat} {f g : Nat → Nat} (h : ec_J n P L (ec_E k f g) a b) (inj : ge_Inj n P) (h12 : n ≤ 12) {K : Int}
    (hK : ∀ i j, i < n → j < n → ge_el K (P i) = ge_el K (P j) → i = j) (ho : ec_once k f g) (hab : a < b) (hb : b < n) (ne : ¬ ec_E k f g a b)
    (clr : ge_Clear n P a b) (nx : ∀ c d, ec_E k f g c d → ¬ ge_Cr (P a) (P b) (P c) (P d)) : k < 30 := by
  have h1 := ec_J_add h hab hb clr nx
  have h2 : ge_Pre n P (ec_E (k + 1) (va_up f k a) (va_up g k b)) := ec_Pre_iff (fun x y => (ec_E_add x y).symm) h1.1
  have h3 := h2.count inj h12 hK
  have h4 := ec_count (n := n) (ec_once_add ho ne) (fun i hi => by
    have q : ec_E (k + 1) (va_up f k a) (va_up g k b) (va_up f k a i) (va_up g k b i) := ⟨i, hi, Or.inl ⟨rfl, rfl⟩⟩
    exact ⟨(h2.lt q).1, (h2.lt q).2, h2.ne q⟩)
  omega
end
/-! the table of third corners -/
def ec_F (th : Nat → Option Nat) : Nat → Nat → Option Nat := fun x y => if x < 12 ∧ y < 12 then th (x * 12 + y) else none
theorem ec_F_in {th : Nat → Option Nat} {x y : Nat} (hx : x < 12) (hy : y < 12) : ec_F th x y = th (x * 12 + y) := if_pos ⟨hx, hy⟩
theorem ec_F_up {th : Nat → Option Nat} {a b : Nat} {w : Option Nat} (ha : a < 12) (hb : b < 12) : ec_F (va_up th (a * 12 + b) w) = ge_updF (ec_F th) a b w := by
  funext x y
  unfold ec_F ge_updF
  dsimp only
  by_cases h : x < 12 ∧ y < 12
  · rw [if_pos h, if_pos h]
    by_cases e : x = a ∧ y = b
    · obtain ⟨rfl, rfl⟩ := e
      rw [if_pos ⟨rfl, rfl⟩, va_up_self]
    · rw [if_neg e, va_up_ne _ _ (by omega)]
  · rw [if_neg h, if_neg h, if_neg (by rintro ⟨rfl, rfl⟩; exact h ⟨ha, hb⟩)]
theorem ec_F_none : ec_F (fun _ => none) = fun _ _ => none := by
  funext x y
  unfold ec_F
  split <;> rfl
/-- x, y, z are p, q, r in some order, which are in their own -/
def ec_srt (p q r x y z : Nat) : Prop := p < q ∧ q < r ∧ ((x = p ∧ y = q ∧ z = r) ∨ (x = q ∧ y = r ∧ z = p) ∨ (x = r ∧ y = p ∧ z = q) ∨ (x = p ∧ y = r ∧ z = q) ∨ (x = r ∧ y = q ∧ z = p) ∨ (x = q ∧ y = p ∧ z = r))
theorem ec_srt_ex {x y z : Nat} (h1 : x ≠ y) (h2 : y ≠ z) (h3 : x ≠ z) : ∃ p q r, ec_srt p q r x y z := by
  unfold ec_srt
  rcases Nat.lt_or_gt_of_ne h1 with a | a <;> rcases Nat.lt_or_gt_of_ne h2 with b | b <;> rcases Nat.lt_or_gt_of_ne h3 with c | c
  · exact ⟨x, y, z, by omega⟩
  · omega
  · exact ⟨x, z, y, by omega⟩
  · exact ⟨z, x, y, by omega⟩
  · exact ⟨y, x, z, by omega⟩
  · exact ⟨y, z, x, by omega⟩
  · omega
  · exact ⟨z, y, x, by omega⟩
/-- the table holds the triangles up to a number -/
def ec_T3 (n : Nat) (P : Nat → ge_Pt) (E : Nat → Nat → Prop) (F : Nat → Nat → Option Nat) (m : Nat) : Prop :=
  ∀ x y z, F x y = some z ↔ (ge_TE n P E x y z ∧ ∃ p q r, ec_srt p q r x y z ∧ p * 144 + q * 12 + r < m)
section
variable {n : Nat} {P : Nat → ge_Pt} {E : Nat → Nat → Prop} {F : Nat → Nat → Option Nat}
theorem ec_T3_start : ec_T3 n P E (fun _ _ => none) 0 := by
  intro x y z
  constructor
  · intro h; cases h
  · rintro ⟨_, p, q, r, _, h⟩; omega
theorem ec_T3_jump {m m' : Nat} (h : ec_T3 n P E F m) (hm : m ≤ m')
    (hn : ∀ x y z p q r, ge_TE n P E x y z → ec_srt p q r x y z → m ≤ p * 144 + q * 12 + r → p * 144 + q * 12 + r < m' → False) : ec_T3 n P E F m' := by
  intro x y z
  rw [h x y z]
  constructor
  · rintro ⟨h1, p, q, r, h2, h3⟩; exact ⟨h1, p, q, r, h2, by omega⟩
  · rintro ⟨h1, p, q, r, h2, h3⟩
    refine ⟨h1, p, q, r, h2, ?_⟩
    apply Classical.byContradiction; intro k
    exact hn x y z p q r h1 h2 (by omega) h3
theorem ec_T3_set0 (Pl : ge_Plan n P E) (inj : ge_Inj n P) {m a b c u v w : Nat} (h : ec_T3 n P E F m) (hb12 : b < 12) (hc12 : c < 12) (hm : m = a * 144 + b * 12 + c)
    (h12 : n ≤ 12) (hs : ec_srt a b c u v w) (hs2 : ec_srt a b c v w u) (hs3 : ec_srt a b c w u v)
    (perm : ∀ x y z, ec_srt a b c x y z → (x = u ∧ y = v ∧ z = w) ∨ (x = v ∧ y = w ∧ z = u) ∨ (x = w ∧ y = u ∧ z = v) ∨ (x = u ∧ y = w ∧ z = v) ∨ (x = w ∧ y = v ∧ z = u) ∨ (x = v ∧ y = u ∧ z = w))
    (hT : ge_TE n P E u v w) :
    ec_T3 n P E (ge_updF (ge_updF (ge_updF F u v (some w)) v w (some u)) w u (some v)) (m + 1) := by
  have hT2 := ge_TE_rot Pl inj hT
  have hT3 := ge_TE_rot Pl inj hT2
  have lt : ∀ {x y z}, ge_TE n P E x y z → x < n ∧ y < n ∧ z < n := fun k => ⟨(Pl.lt k.1).1, (Pl.lt k.1).2, (Pl.lt k.2.1).2⟩
  have uniq : ∀ p q r x y z, ec_srt p q r x y z → p * 144 + q * 12 + r = m → x < 12 → y < 12 → z < 12 → p = a ∧ q = b ∧ r = c := by
    intro p q r x y z hh hq hx hy hz
    have h3 : q < 12 ∧ r < 12 := by
      rcases hh.2.2 with ⟨rfl, rfl, rfl⟩ | ⟨rfl, rfl, rfl⟩ | ⟨rfl, rfl, rfl⟩ | ⟨rfl, rfl, rfl⟩ | ⟨rfl, rfl, rfl⟩ | ⟨rfl, rfl, rfl⟩ <;> exact ⟨by assumption, by assumption⟩
    clear perm hs hs2 hs3 hh
    omega
  intro x y z
  unfold ge_updF
  by_cases e3 : x = w ∧ y = u
  · obtain ⟨rfl, rfl⟩ := e3
    rw [if_pos ⟨rfl, rfl⟩]
    constructor
    · intro q; cases q; exact ⟨hT3, a, b, c, hs3, by omega⟩
    · rintro ⟨q, _⟩; rw [ge_TE_uni Pl inj hT3 q]
  rw [if_neg e3]
  by_cases e2 : x = v ∧ y = w
  · obtain ⟨rfl, rfl⟩ := e2
    rw [if_pos ⟨rfl, rfl⟩]
    constructor
    · intro q; cases q; exact ⟨hT2, a, b, c, hs2, by omega⟩
    · rintro ⟨q, _⟩; rw [ge_TE_uni Pl inj hT2 q]
  rw [if_neg e2]
  by_cases e1 : x = u ∧ y = v
  · obtain ⟨rfl, rfl⟩ := e1
    rw [if_pos ⟨rfl, rfl⟩]
    constructor
    · intro q; cases q; exact ⟨hT, a, b, c, hs, by omega⟩
    · rintro ⟨q, _⟩; rw [ge_TE_uni Pl inj hT q]
  rw [if_neg e1, h x y z]
  constructor
  · rintro ⟨h1, p, q, r, h2, h3⟩; exact ⟨h1, p, q, r, h2, by omega⟩
  · rintro ⟨h1, p, q, r, h2, h3⟩
    refine ⟨h1, p, q, r, h2, ?_⟩
    apply Classical.byContradiction; intro k
    have l := lt h1
    obtain ⟨rfl, rfl, rfl⟩ := uniq p q r x y z h2 (by omega) (by omega) (by omega) (by omega)
    have p1 := h1.2.2.2.1
    have p2 := hT.2.2.2.1
    have r3 := ge_swp (P u) (P v) (P w)
    have r4 := ge_swp2 (P u) (P v) (P w)
    have r5 := ge_swp3 (P u) (P v) (P w)
    rcases perm x y z h2 with ⟨rfl, rfl, rfl⟩ | ⟨rfl, rfl, rfl⟩ | ⟨rfl, rfl, rfl⟩ | ⟨rfl, rfl, rfl⟩ | ⟨rfl, rfl, rfl⟩ | ⟨rfl, rfl, rfl⟩
    · exact e1 ⟨rfl, rfl⟩
    · exact e2 ⟨rfl, rfl⟩
    · exact e3 ⟨rfl, rfl⟩
    · rw [r4] at p1; clear uniq perm; omega
    · rw [r5] at p1; clear uniq perm; omega
    · rw [r3] at p1; clear uniq perm; omega
theorem ec_T3_set (Pl : ge_Plan n P E) (inj : ge_Inj n P) (h12 : n ≤ 12) {m a b c u v w : Nat} (h : ec_T3 n P E F m) (hab : a < b) (hbc : b < c) (hm : m = a * 144 + b * 12 + c)
    (huvw : (u = a ∧ v = b ∧ w = c) ∨ (u = a ∧ v = c ∧ w = b)) (hT : ge_TE n P E u v w) :
    ec_T3 n P E (ge_updF (ge_updF (ge_updF F u v (some w)) v w (some u)) w u (some v)) (m + 1) := by
  have l1 := Pl.lt hT.1
  have l2 := Pl.lt hT.2.1
  rcases huvw with ⟨rfl, rfl, rfl⟩ | ⟨rfl, rfl, rfl⟩
  · refine ec_T3_set0 Pl inj h (by omega) (by omega) hm h12 ⟨hab, hbc, Or.inl ⟨rfl, rfl, rfl⟩⟩ ⟨hab, hbc, Or.inr (Or.inl ⟨rfl, rfl, rfl⟩)⟩ ⟨hab, hbc, Or.inr (Or.inr (Or.inl ⟨rfl, rfl, rfl⟩))⟩ ?_ hT
    rintro x y z ⟨_, _, q⟩
    exact q
  · refine ec_T3_set0 Pl inj h (by omega) (by omega) hm h12 ⟨hab, hbc, Or.inr (Or.inr (Or.inr (Or.inl ⟨rfl, rfl, rfl⟩)))⟩ ⟨hab, hbc, Or.inr (Or.inr (Or.inr (Or.inr (Or.inl ⟨rfl, rfl, rfl⟩))))⟩ ⟨hab, hbc, Or.inr (Or.inr (Or.inr (Or.inr (Or.inr ⟨rfl, rfl, rfl⟩))))⟩ ?_ hT
    rintro x y z ⟨_, _, q⟩
    rcases q with q | q | q | q | q | q
    · exact Or.inr (Or.inr (Or.inr (Or.inl q)))
    · exact Or.inr (Or.inr (Or.inr (Or.inr (Or.inl ⟨q.1, q.2.1, q.2.2⟩))))
    · exact Or.inr (Or.inr (Or.inr (Or.inr (Or.inr ⟨q.1, q.2.1, q.2.2⟩))))
    · exact Or.inl q
    · exact Or.inr (Or.inl q)
    · exact Or.inr (Or.inr (Or.inl q))
theorem ec_T3_end {m : Nat} (Pl : ge_Plan n P E) (h12 : n ≤ 12) (h : ec_T3 n P E F m) (hm : n * 144 ≤ m) : ge_TF F = ge_TE n P E := by
  funext x y z
  apply propext
  show F x y = some z ↔ _
  rw [h x y z]
  constructor
  · exact fun q => q.1
  · intro q
    refine ⟨q, ?_⟩
    have p1 := q.2.2.2.1
    have l1 := Pl.lt q.1
    have l2 := Pl.lt q.2.1
    obtain ⟨p, r, s, hh⟩ := ec_srt_ex (x := x) (y := y) (z := z) (Pl.ne q.1) (Pl.ne q.2.1) (Pl.ne q.2.2.1).symm
    refine ⟨p, r, s, hh, ?_⟩
    have h12' : p < n ∧ r < n ∧ s < n := by unfold ec_srt at hh; omega
    omega
/-- three that are joined are not on a line -/
theorem ec_no_line (Pl : ge_Plan n P E) {K : Int} (hK : ∀ i j, i < n → j < n → ge_el K (P i) = ge_el K (P j) → i = j) {a b c : Nat}
    (h1 : E a b) (h2 : E b c) (h3 : E a c) : ge_ori (P a) (P b) (P c) ≠ 0 := by
  intro h0
  have la := Pl.lt h1; have lb := Pl.lt h2
  have n1 := Pl.ne h1; have n2 := Pl.ne h2; have n3 := Pl.ne h3
  have e1 : ge_el K (P a) ≠ ge_el K (P b) := fun e => n1 (hK a b la.1 la.2 e)
  have e2 : ge_el K (P b) ≠ ge_el K (P c) := fun e => n2 (hK b c lb.1 lb.2 e)
  have e3 : ge_el K (P a) ≠ ge_el K (P c) := fun e => n3 (hK a c la.1 lb.2 e)
  have r1 := ge_rot (P a) (P b) (P c)
  have r2 := ge_rot2 (P a) (P b) (P c)
  have r3 := ge_swp (P a) (P b) (P c)
  have r4 := ge_swp2 (P a) (P b) (P c)
  have r5 := ge_swp3 (P a) (P b) (P c)
  have key : ∀ x y z, x < n → y < n → z < n → z ≠ x → z ≠ y → ge_Clear n P x y → ge_ori (P x) (P y) (P z) = 0 → ge_el K (P y) < ge_el K (P z) → ge_el K (P z) < ge_el K (P x) → False := by
    intro x y z hx hy hz k1 k2 clr k3 k4 k5
    exact clr z hz k1 k2 (ge_btw_of_side (fun q => ge_el K q) K 1 0 (fun q => ge_el_lin K q) k3 (by omega) (by omega) (by omega))
  have c1 := Pl.clear h1; have c2 := Pl.clear h2; have c3 := Pl.clear h3
  rcases Int.lt_or_gt_of_ne e1 with g1 | g1 <;> rcases Int.lt_or_gt_of_ne e2 with g2 | g2 <;> rcases Int.lt_or_gt_of_ne e3 with g3 | g3
  · exact key c a b lb.2 la.1 la.2 n2 n1.symm c3.symm (by omega) g1 g2
  · omega
  · exact key b a c la.2 la.1 lb.2 n2.symm n3.symm c1.symm (by omega) g3 g2
  · exact key b c a la.2 lb.2 la.1 n1 n3 c2 (by omega) g3 g1
  · exact key c b a lb.2 la.2 la.1 n3 n1 c2.symm (by omega) g1 g3
  · exact key a b c la.1 la.2 lb.2 n3.symm n2.symm c1 (by omega) g2 g3
  · omega
  · exact key a c b la.1 lb.2 la.2 n1.symm n2 c3 (by omega) g2 g1
end
