/-! triangles found one from another -/
section
variable {n : Nat} {P : Nat → ge_Pt} {T : Nat → Nat → Nat → Prop} {A B C : Nat → Nat} {k : Nat}
def ec_RF (T : Nat → Nat → Nat → Prop) (k : Nat) (A B C : Nat → Nat) : Prop :=
  (∀ t, t < k → T (A t) (B t) (C t)) ∧ ∀ t u x y z, t < k → u < k → ec_rot3 A B C t x y z → ec_rot3 A B C u x y z → t = u
theorem ec_rot3_T (rot : ∀ a b c, T a b c → T b c a) {t x y z : Nat} (h : T (A t) (B t) (C t)) (r : ec_rot3 A B C t x y z) : T x y z := by
  rcases r with ⟨rfl, rfl, rfl⟩ | ⟨rfl, rfl, rfl⟩ | ⟨rfl, rfl, rfl⟩
  · exact h
  · exact rot _ _ _ h
  · exact rot _ _ _ (rot _ _ _ h)
theorem ec_rot3_back {t x y z : Nat} (r : ec_rot3 A B C t x y z) : ec_rot3 A B C t z x y := ec_rot3_rot (ec_rot3_rot r)
theorem ec_sd_rot3 {t x y : Nat} (h : ec_sd A B C t x y) : ∃ z, ec_rot3 A B C t x y z := by
  rcases h with ⟨h1, h2⟩ | ⟨h1, h2⟩ | ⟨h1, h2⟩
  · exact ⟨C t, Or.inl ⟨h1, h2, rfl⟩⟩
  · exact ⟨A t, Or.inr (Or.inl ⟨h1, h2, rfl⟩)⟩
  · exact ⟨B t, Or.inr (Or.inr ⟨h1, h2, rfl⟩)⟩
theorem ec_RF_old {a b c t x y z : Nat} (ht : t < k) : ec_rot3 (va_up A k a) (va_up B k b) (va_up C k c) t x y z ↔ ec_rot3 A B C t x y z := by
  unfold ec_rot3
  rw [va_up_ne A a (by omega), va_up_ne B b (by omega), va_up_ne C c (by omega)]
theorem ec_RF_new {a b c x y z : Nat} : ec_rot3 (va_up A k a) (va_up B k b) (va_up C k c) k x y z ↔ ((a = x ∧ b = y ∧ c = z) ∨ (b = x ∧ c = y ∧ a = z) ∨ (c = x ∧ a = y ∧ b = z)) := by
  unfold ec_rot3
  rw [va_up_self, va_up_self, va_up_self]
theorem ec_RF_add {a b c : Nat} (h : ec_RF T k A B C) (hT : T a b c) (hn : ∀ t, t < k → ¬ ec_rot3 A B C t a b c) :
    ec_RF T (k + 1) (va_up A k a) (va_up B k b) (va_up C k c) := by
  have no : ∀ t x y z, t < k → ec_rot3 A B C t x y z → ((a = x ∧ b = y ∧ c = z) ∨ (b = x ∧ c = y ∧ a = z) ∨ (c = x ∧ a = y ∧ b = z)) → False := by
    rintro t x y z ht r (⟨rfl, rfl, rfl⟩ | ⟨rfl, rfl, rfl⟩ | ⟨rfl, rfl, rfl⟩)
    · exact hn t ht r
    · exact hn t ht (ec_rot3_back r)
    · exact hn t ht (ec_rot3_rot r)
  refine ⟨fun t ht => ?_, fun t u x y z ht hu r r' => ?_⟩
  · by_cases e : t = k
    · subst e; rw [va_up_self, va_up_self, va_up_self]; exact hT
    · rw [va_up_ne A a e, va_up_ne B b e, va_up_ne C c e]; exact h.1 t (by omega)
  · by_cases e : t = k <;> by_cases e' : u = k
    · omega
    · subst e
      exact (no u x y z (by omega) ((ec_RF_old (by omega)).mp r') (ec_RF_new.mp r)).elim
    · subst e'
      exact (no t x y z (by omega) ((ec_RF_old (by omega)).mp r) (ec_RF_new.mp r')).elim
    · exact h.2 t u x y z (by omega) (by omega) ((ec_RF_old (by omega)).mp r) ((ec_RF_old (by omega)).mp r')
theorem ec_RF_count (M : ge_Mesh n P T) (h : ec_RF T k A B C) : (k : Int) ≤ ge_cnt3 n (fun a b c => T a b c ∧ a < b ∧ a < c) := by
  have key : ∀ j, j ≤ k → (j : Int) ≤ ge_cnt3 n (fun x y z => (T x y z ∧ x < y ∧ x < z) ∧ ∃ t, t < j ∧ ec_rot3 A B C t x y z) := by
    intro j
    induction j with
    | zero => intro _; exact ec_cnt3_nonneg _
    | succ j ih =>
      intro hj
      have h0 := ih (by omega)
      have hT := h.1 j (by omega)
      have ne := M.ne hT
      have ex : ∃ x y z, ec_rot3 A B C j x y z ∧ x < y ∧ x < z := by
        unfold ec_rot3
        by_cases q1 : A j < B j ∧ A j < C j
        · exact ⟨_, _, _, Or.inl ⟨rfl, rfl, rfl⟩, q1.1, q1.2⟩
        · by_cases q2 : B j < C j ∧ B j < A j
          · exact ⟨_, _, _, Or.inr (Or.inl ⟨rfl, rfl, rfl⟩), q2.1, q2.2⟩
          · exact ⟨_, _, _, Or.inr (Or.inr ⟨rfl, rfl, rfl⟩), by omega, by omega⟩
      obtain ⟨x, y, z, r, l1, l2⟩ := ex
      have hT' := ec_rot3_T (T := T) (fun _ _ _ q => M.rot q) hT r
      have l := M.lt hT'
      have := ec_cnt3_lt (n := n) (p := fun x y z => (T x y z ∧ x < y ∧ x < z) ∧ ∃ t, t < j ∧ ec_rot3 A B C t x y z)
        (q := fun x y z => (T x y z ∧ x < y ∧ x < z) ∧ ∃ t, t < j + 1 ∧ ec_rot3 A B C t x y z)
        (fun x y z ⟨q, t, ht, r⟩ => ⟨q, t, by omega, r⟩) l.1 l.2.1 l.2.2 ⟨⟨hT', l1, l2⟩, j, by omega, r⟩
        (by
          rintro ⟨_, t, ht, r'⟩
          have := h.2 t j x y z (by omega) (by omega) r' r
          omega)
      omega
  have h1 := key k (Nat.le_refl _)
  have h2 : ge_cnt3 n (fun x y z => (T x y z ∧ x < y ∧ x < z) ∧ ∃ t, t < k ∧ ec_rot3 A B C t x y z) ≤ ge_cnt3 n (fun a b c => T a b c ∧ a < b ∧ a < c) :=
    ge_cnt3_le fun x y z q => q.1
  omega
theorem ec_RF_all (M : ge_Mesh n P T) (inj : ge_Inj n P) (h : ec_RF T k A B C) (h0 : 0 < k)
    (cl : ∀ t x y w, t < k → ec_sd A B C t x y → T y x w → ∃ u, u < k ∧ ec_rot3 A B C u y x w) {a b c : Nat} (hT : T a b c) : ∃ u, u < k ∧ ec_rot3 A B C u a b c := by
  refine ge_closed_all (T' := fun a b c => ∃ u, u < k ∧ ec_rot3 A B C u a b c) M inj ?_ ?_ ?_ ⟨A 0, B 0, C 0, 0, h0, Or.inl ⟨rfl, rfl, rfl⟩⟩ hT
  · rintro x y z ⟨u, hu, r⟩; exact ec_rot3_T (T := T) (fun _ _ _ q => M.rot q) (h.1 u hu) r
  · rintro x y z ⟨u, hu, r⟩; exact ⟨u, hu, ec_rot3_rot r⟩
  · rintro x y z w ⟨u, hu, r⟩ q; exact cl u y x w hu (ec_rot3_sd r) q
end
