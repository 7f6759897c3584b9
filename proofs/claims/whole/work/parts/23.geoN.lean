/-! Counting. -/
noncomputable def ge_ind (p : Prop) : Int := @ite Int p (Classical.propDecidable p) 1 0

theorem ge_ind_true {p : Prop} (h : p) : ge_ind p = 1 := if_pos h
theorem ge_ind_false {p : Prop} (h : ¬ p) : ge_ind p = 0 := if_neg h
theorem ge_ind_bnd (p : Prop) : 0 ≤ ge_ind p ∧ ge_ind p ≤ 1 := by
  by_cases h : p
  · rw [ge_ind_true h]; omega
  · rw [ge_ind_false h]; omega
theorem ge_ind_le {p q : Prop} (h : p → q) : ge_ind p ≤ ge_ind q := by
  by_cases hp : p
  · rw [ge_ind_true hp, ge_ind_true (h hp)]; exact Int.le_refl _
  · rw [ge_ind_false hp]; exact (ge_ind_bnd q).1
theorem ge_ind_congr {p q : Prop} (h : p ↔ q) : ge_ind p = ge_ind q := by rw [propext h]

theorem ge_sumN_add (k : Nat) (f g : Nat → Int) : ge_sumN k (fun i => f i + g i) = ge_sumN k f + ge_sumN k g := by
  induction k with
  | zero => rfl
  | succ k ih => simp only [ge_sumN, ih]; omega

theorem ge_sumN_zero {k : Nat} {f : Nat → Int} (h : ∀ i, i < k → f i = 0) : ge_sumN k f = 0 := by
  rw [ge_sumN_congr h, ge_sumN_const]; omega

theorem ge_sumN_nonneg {k : Nat} {f : Nat → Int} (h : ∀ i, i < k → 0 ≤ f i) : 0 ≤ ge_sumN k f := by
  have := ge_sumN_le (f := fun _ => 0) (g := f) h
  rw [ge_sumN_const] at this; omega

theorem ge_sumN_swap (k l : Nat) (f : Nat → Nat → Int) :
    ge_sumN k (fun i => ge_sumN l (fun j => f i j)) = ge_sumN l (fun j => ge_sumN k (fun i => f i j)) := by
  induction k with
  | zero => simp only [ge_sumN]; rw [ge_sumN_const]; omega
  | succ k ih => simp only [ge_sumN]; rw [ih, ← ge_sumN_add]

/-- At most one summand is not 0, and that one at most 1. -/
theorem ge_sumN_one_le {k : Nat} {p : Nat → Prop} (h : ∀ i j, i < k → j < k → p i → p j → i = j) :
    ge_sumN k (fun i => ge_ind (p i)) ≤ ge_ind (∃ i, i < k ∧ p i) := by
  induction k with
  | zero => simp only [ge_sumN]; exact (ge_ind_bnd _).1
  | succ k ih =>
    simp only [ge_sumN]
    by_cases hk : p k
    · rw [ge_ind_true hk, ge_ind_true ⟨k, by omega, hk⟩]
      rw [ge_sumN_zero]
      · omega
      · intro i hi
        apply ge_ind_false
        intro hpi
        have := h i k (by omega) (by omega) hpi hk
        omega
    · rw [ge_ind_false hk]
      have := ih (fun i j hi hj => h i j (by omega) (by omega))
      have := ge_ind_le (p := ∃ i, i < k ∧ p i) (q := ∃ i, i < k + 1 ∧ p i) (fun ⟨i, hi, hp⟩ => ⟨i, by omega, hp⟩)
      omega

/-- A single true one counts. -/
theorem ge_sumN_ge_one {k i : Nat} {p : Nat → Prop} (hi : i < k) (hp : p i) : 1 ≤ ge_sumN k (fun i => ge_ind (p i)) := by
  have := ge_sumN_one (k := k) (i := i) (f := fun j => if j = i then 0 else ge_ind (p j)) (g := fun j => ge_ind (p j)) hi
    (fun j _ hne => by simp [hne])
  rw [this]
  simp only [if_true]
  rw [ge_ind_true hp]
  have := ge_sumN_nonneg (k := k) (f := fun j => if j = i then 0 else ge_ind (p j)) (by
    intro j _
    split
    · exact Int.le_refl _
    · exact (ge_ind_bnd _).1)
  omega

noncomputable def ge_cnt2 (n : Nat) (p : Nat → Nat → Prop) : Int := ge_sumN n fun a => ge_sumN n fun b => ge_ind (p a b)
noncomputable def ge_cnt3 (n : Nat) (p : Nat → Nat → Nat → Prop) : Int :=
  ge_sumN n fun a => ge_sumN n fun b => ge_sumN n fun c => ge_ind (p a b c)

theorem ge_cnt2_le {n : Nat} {p q : Nat → Nat → Prop} (h : ∀ a b, a < n → b < n → p a b → q a b) : ge_cnt2 n p ≤ ge_cnt2 n q :=
  ge_sumN_le fun a ha => ge_sumN_le fun b hb => ge_ind_le (h a b ha hb)

theorem ge_cnt3_rot (n : Nat) (p : Nat → Nat → Nat → Prop) : ge_cnt3 n (fun a b c => p b c a) = ge_cnt3 n p := by
  unfold ge_cnt3
  rw [ge_sumN_swap]
  apply ge_sumN_congr
  intro b _
  rw [ge_sumN_swap]

theorem ge_cnt2_swap (n : Nat) (p : Nat → Nat → Prop) : ge_cnt2 n (fun a b => p b a) = ge_cnt2 n p := by
  unfold ge_cnt2
  rw [ge_sumN_swap]

/-- Three different pairs count three. -/
theorem ge_cnt2_three {n : Nat} {p : Nat → Nat → Prop} {a1 b1 a2 b2 a3 b3 : Nat}
    (h1 : a1 < n) (k1 : b1 < n) (h2 : a2 < n) (k2 : b2 < n) (h3 : a3 < n) (k3 : b3 < n)
    (p1 : p a1 b1) (p2 : p a2 b2) (p3 : p a3 b3)
    (d12 : ¬ (a1 = a2 ∧ b1 = b2)) (d13 : ¬ (a1 = a3 ∧ b1 = b3)) (d23 : ¬ (a2 = a3 ∧ b2 = b3)) : 3 ≤ ge_cnt2 n p := by
  have take : ∀ (q : Nat → Nat → Prop) (a b : Nat), a < n → b < n → q a b →
      ge_cnt2 n q = 1 + ge_cnt2 n (fun x y => q x y ∧ ¬ (x = a ∧ y = b)) := by
    intro q a b ha hb hq
    have inner : ge_sumN n (fun y => ge_ind (q a y)) = 1 + ge_sumN n (fun y => ge_ind (q a y ∧ ¬ (a = a ∧ y = b))) := by
      rw [ge_sumN_one (f := fun y => ge_ind (q a y ∧ ¬ (a = a ∧ y = b))) (g := fun y => ge_ind (q a y)) hb]
      · rw [ge_ind_true hq, ge_ind_false (p := q a b ∧ ¬ (a = a ∧ b = b)) (by simp)]
        omega
      · intro y _ hne
        exact ge_ind_congr (by simp [hne])
    have ge_outer : ge_sumN n (fun x => ge_sumN n fun y => ge_ind (q x y)) =
        ge_sumN n (fun x => ge_sumN n fun y => ge_ind (q x y ∧ ¬ (x = a ∧ y = b)))
        - ge_sumN n (fun y => ge_ind (q a y ∧ ¬ (a = a ∧ y = b))) + ge_sumN n (fun y => ge_ind (q a y)) := by
      exact ge_sumN_one (f := fun x => ge_sumN n fun y => ge_ind (q x y ∧ ¬ (x = a ∧ y = b))) (g := fun x => ge_sumN n fun y => ge_ind (q x y)) ha
        (by
          intro x _ hne
          apply ge_sumN_congr
          intro y _
          exact ge_ind_congr (by simp [hne]))
    show ge_sumN n (fun x => ge_sumN n fun y => ge_ind (q x y)) = 1 + ge_sumN n (fun x => ge_sumN n fun y => ge_ind (q x y ∧ ¬ (x = a ∧ y = b)))
    rw [ge_outer, inner]
    omega
  rw [take p a1 b1 h1 k1 p1, take _ a2 b2 h2 k2 ⟨p2, fun e => d12 ⟨e.1.symm, e.2.symm⟩⟩,
    take _ a3 b3 h3 k3 ⟨⟨p3, fun e => d13 ⟨e.1.symm, e.2.symm⟩⟩, fun e => d23 ⟨e.1.symm, e.2.symm⟩⟩]
  have : 0 ≤ ge_cnt2 n (fun x y => ((p x y ∧ ¬ (x = a1 ∧ y = b1)) ∧ ¬ (x = a2 ∧ y = b2)) ∧ ¬ (x = a3 ∧ y = b3)) :=
    ge_sumN_nonneg fun a _ => ge_sumN_nonneg fun b _ => (ge_ind_bnd _).1
  omega
