/-! lists of links: the relation that they make, its bits, its number -/
def ec_E (k : Nat) (f g : Nat → Nat) (a b : Nat) : Prop := ∃ i, i < k ∧ ((f i = a ∧ g i = b) ∨ (f i = b ∧ g i = a))
theorem ec_E_symm {k : Nat} {f g : Nat → Nat} {a b : Nat} (h : ec_E k f g a b) : ec_E k f g b a := by
  obtain ⟨i, hi, h | h⟩ := h
  · exact ⟨i, hi, Or.inr h⟩
  · exact ⟨i, hi, Or.inl h⟩
theorem ec_E_congr {k : Nat} {f g f' g' : Nat → Nat} (h1 : ∀ i, i < k → f' i = f i) (h2 : ∀ i, i < k → g' i = g i) (x y : Nat) : ec_E k f' g' x y ↔ ec_E k f g x y := by
  constructor
  · rintro ⟨i, hi, h⟩
    rw [h1 i hi, h2 i hi] at h
    exact ⟨i, hi, h⟩
  · rintro ⟨i, hi, h⟩
    refine ⟨i, hi, ?_⟩
    rw [h1 i hi, h2 i hi]
    exact h
theorem ec_E_add {k : Nat} {f g : Nat → Nat} {a b : Nat} (x y : Nat) : ec_E (k + 1) (va_up f k a) (va_up g k b) x y ↔ ge_addE (ec_E k f g) a b x y := by
  constructor
  · rintro ⟨i, hi, h⟩
    by_cases e : i = k
    · subst e
      rw [va_up_self, va_up_self] at h
      rcases h with ⟨h1, h2⟩ | ⟨h1, h2⟩
      · exact Or.inr (Or.inl ⟨h1.symm, h2.symm⟩)
      · exact Or.inr (Or.inr ⟨h2.symm, h1.symm⟩)
    · rw [va_up_ne f a e, va_up_ne g b e] at h
      exact Or.inl ⟨i, by omega, h⟩
  · rintro (⟨i, hi, h⟩ | ⟨rfl, rfl⟩ | ⟨rfl, rfl⟩)
    · refine ⟨i, by omega, ?_⟩
      rw [va_up_ne f a (by omega), va_up_ne g b (by omega)]
      exact h
    · exact ⟨k, by omega, by rw [va_up_self, va_up_self]; exact Or.inl ⟨rfl, rfl⟩⟩
    · exact ⟨k, by omega, by rw [va_up_self, va_up_self]; exact Or.inr ⟨rfl, rfl⟩⟩
/-- bit b of row a tells whether a and b are linked -/
def ec_R (r : Nat → Nat) (E : Nat → Nat → Prop) : Prop := (∀ a, a < 12 → r a < 4096) ∧ ∀ a b, a < 12 → b < 12 → ((r a).testBit b = true ↔ E a b)
theorem ec_R_nil : ec_R (fun _ => 0) (fun _ _ => False) := ⟨fun _ _ => (by decide : 0 < 4096), fun a b _ _ => by simp⟩
theorem ec_R_iff {r : Nat → Nat} {E E' : Nat → Nat → Prop} (h : ec_R r E) (e : ∀ a b, E a b ↔ E' a b) : ec_R r E' := ⟨h.1, fun a b ha hb => (h.2 a b ha hb).trans (e a b)⟩
theorem ec_R_add {r : Nat → Nat} {E : Nat → Nat → Prop} {a b : Nat} (h : ec_R r E) (ha : a < 12) (hb : b < 12) (hab : a ≠ b) :
    ec_R (va_up (va_up r a (r a ||| 2 ^ b)) b (r b ||| 2 ^ a)) (ge_addE E a b) := by
  have pw : ∀ k, k < 12 → 2 ^ k < 4096 := by intro k hk; exact (Nat.pow_lt_pow_iff_right (by omega : 1 < 2)).mpr hk
  refine ⟨fun x hx => ?_, fun x y hx hy => ?_⟩
  · by_cases e : x = b
    · subst e; rw [va_up_self]; exact Nat.or_lt_two_pow (n := 12) (h.1 x hx) (pw a ha)
    · rw [va_up_ne _ _ e]
      by_cases e2 : x = a
      · subst e2; rw [va_up_self]; exact Nat.or_lt_two_pow (n := 12) (h.1 x hx) (pw b hb)
      · rw [va_up_ne _ _ e2]; exact h.1 x hx
  · by_cases e : x = b
    · subst e
      rw [va_up_self, Nat.testBit_or, Nat.testBit_two_pow]
      have := h.2 x y hx hy
      unfold ge_addE
      constructor
      · intro q
        rcases Bool.or_eq_true _ _ |>.mp q with q | q
        · exact Or.inl (this.mp q)
        · exact Or.inr (Or.inr ⟨rfl, (of_decide_eq_true q).symm⟩)
      · rintro (q | ⟨q1, q2⟩ | ⟨q1, q2⟩)
        · rw [this.mpr q]; rfl
        · exact absurd q1.symm hab
        · subst q2; simp
    · rw [va_up_ne _ _ e]
      by_cases e2 : x = a
      · subst e2
        rw [va_up_self, Nat.testBit_or, Nat.testBit_two_pow]
        have := h.2 x y hx hy
        unfold ge_addE
        constructor
        · intro q
          rcases Bool.or_eq_true _ _ |>.mp q with q | q
          · exact Or.inl (this.mp q)
          · exact Or.inr (Or.inl ⟨rfl, (of_decide_eq_true q).symm⟩)
        · rintro (q | ⟨q1, q2⟩ | ⟨q1, q2⟩)
          · rw [this.mpr q]; rfl
          · subst q2; simp
          · exact absurd q1 hab
      · rw [va_up_ne _ _ e2]
        have := h.2 x y hx hy
        unfold ge_addE
        constructor
        · intro q; exact Or.inl (this.mp q)
        · rintro (q | ⟨q1, q2⟩ | ⟨q1, q2⟩)
          · exact this.mpr q
          · exact absurd q1 e2
          · exact absurd q1 e
theorem ec_sumN_nonneg {k : Nat} {f : Nat → Int} (h : ∀ i, i < k → 0 ≤ f i) : 0 ≤ ge_sumN k f := by
  have := ge_sumN_le (k := k) (f := fun _ => 0) (g := f) h
  rw [ge_sumN_const] at this
  omega
theorem ec_ind_nonneg (p : Prop) : 0 ≤ ge_ind p := by
  by_cases h : p
  · rw [ge_ind_true h]; omega
  · rw [ge_ind_false h]; omega
theorem ge_cnt2_nonneg {n : Nat} (p : Nat → Nat → Prop) : 0 ≤ ge_cnt2 n p :=
  ec_sumN_nonneg fun _ _ => ec_sumN_nonneg fun _ _ => ec_ind_nonneg _
/-- no link stands twice -/
def ec_once (k : Nat) (f g : Nat → Nat) : Prop := ∀ i, i < k → ¬ ec_E i f g (f i) (g i)
theorem ec_once_add {k : Nat} {f g : Nat → Nat} {a b : Nat} (h : ec_once k f g) (hn : ¬ ec_E k f g a b) : ec_once (k + 1) (va_up f k a) (va_up g k b) := by
  intro i hi
  have c : ∀ j, j ≤ k → ∀ x y, ec_E j (va_up f k a) (va_up g k b) x y ↔ ec_E j f g x y := fun j hj x y => ec_E_congr (fun i hi => va_up_ne f a (by omega)) (fun i hi => va_up_ne g b (by omega)) x y
  by_cases e : i = k
  · subst e
    rw [va_up_self, va_up_self, c i (Nat.le_refl _)]; exact hn
  · rw [va_up_ne f a e, va_up_ne g b e, c i (by omega)]; exact h i (by omega)
theorem ec_count {n k : Nat} {f g : Nat → Nat} (h : ec_once k f g) (hl : ∀ i, i < k → f i < n ∧ g i < n ∧ f i ≠ g i) : 2 * (k : Int) ≤ ge_cnt2 n (ec_E k f g) := by
  induction k with
  | zero =>
    have := ge_cnt2_nonneg (n := n) (ec_E 0 f g)
    omega
  | succ k ih =>
    have h0 := ih (fun i hi => h i (by omega)) (fun i hi => hl i (by omega))
    have hk := hl k (by omega)
    have nk := h k (by omega)
    have h1 := ge_cnt2_lt (n := n) (p := ec_E k f g) (q := fun x y => ec_E k f g x y ∨ (x = f k ∧ y = g k)) (fun x y q => Or.inl q) hk.1 hk.2.1 (Or.inr ⟨rfl, rfl⟩) nk
    have h2 := ge_cnt2_lt (n := n) (p := fun x y => ec_E k f g x y ∨ (x = f k ∧ y = g k)) (q := ec_E (k + 1) f g) (a := g k) (b := f k)
      (by
        rintro x y (⟨i, hi, q⟩ | ⟨rfl, rfl⟩)
        · exact ⟨i, by omega, q⟩
        · exact ⟨k, by omega, Or.inl ⟨rfl, rfl⟩⟩)
      hk.2.1 hk.1 ⟨k, by omega, Or.inr ⟨rfl, rfl⟩⟩
      (by
        rintro (q | ⟨q1, q2⟩)
        · exact nk (ec_E_symm q)
        · exact hk.2.2 q1.symm)
    omega
theorem ec_Pre_iff {n : Nat} {P : Nat → ge_Pt} {E E' : Nat → Nat → Prop} (e : ∀ a b, E a b ↔ E' a b) (h : ge_Pre n P E) : ge_Pre n P E' := by
  have : E = E' := by funext a b; exact propext (e a b)
  rw [← this]; exact h
