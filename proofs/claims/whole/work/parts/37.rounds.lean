/-! marks that spread in rounds -/
noncomputable def ec_cnt (k : Nat) (mk : Nat → Prop) : Int := ge_sumN k (fun t => ge_ind (mk t))
theorem ec_cnt_le (k : Nat) (mk : Nat → Prop) : ec_cnt k mk ≤ k := by
  have := ge_sumN_le (k := k) (f := fun t => ge_ind (mk t)) (g := fun _ => 1) (fun i _ => (ge_ind_bnd _).2)
  rw [ge_sumN_const] at this
  unfold ec_cnt
  omega
theorem ec_cnt_nonneg (k : Nat) (mk : Nat → Prop) : 0 ≤ ec_cnt k mk := ec_sumN_nonneg fun i _ => ec_ind_nonneg _
theorem ec_cnt_up {k t : Nat} {mk : Nat → Prop} (ht : t < k) (h : ¬ mk t) : ec_cnt k (va_up mk t True) = ec_cnt k mk + 1 := by
  unfold ec_cnt
  rw [ge_sumN_one (i := t) (f := fun t => ge_ind (mk t)) ht (fun j _ hj => by rw [va_up_ne mk True hj])]
  rw [va_up_self, ge_ind_true trivial, ge_ind_false h]
  omega
theorem ec_cnt_mono {k : Nat} {mk mk' : Nat → Prop} (h : ∀ t, t < k → mk t → mk' t) : ec_cnt k mk ≤ ec_cnt k mk' :=
  ge_sumN_le fun i hi => ge_ind_le (h i hi)
theorem ec_cnt_all {k : Nat} {mk : Nat → Prop} (h : (k : Int) ≤ ec_cnt k mk) : ∀ t, t < k → mk t := by
  intro t ht
  apply Classical.byContradiction; intro hn
  have h1 := ec_cnt_up ht hn
  have h2 := ec_cnt_le k (va_up mk t True)
  omega
/-- nothing unmarked is beside a marked one; bs tells what is beside, for any marks -/
def ec_closed (k : Nat) (bs : (Nat → Prop) → Nat → Prop) (g : Nat → Prop) : Prop := ∀ u, u < k → g u ∨ ¬ bs g u
/-- within a round of the class: b tells whether something was marked -/
def ec_RdC (k : Nat) (bs : (Nat → Prop) → Nat → Prop) (g0 g : Nat → Prop) (b : Prop) (t : Nat) : Prop :=
  (∀ u, u < k → g0 u → g u) ∧ (¬ b → (∀ u, u < k → (g u ↔ g0 u)) ∧ ∀ u, u < t → g u ∨ ¬ bs g u) ∧ (b → ec_cnt k g0 + 1 ≤ ec_cnt k g)
section
variable {k : Nat} {bs : (Nat → Prop) → Nat → Prop} {g0 g : Nat → Prop}
theorem ec_RdC_0 : ec_RdC k bs g g False 0 := ⟨fun _ _ h => h, fun _ => ⟨fun _ _ => Iff.rfl, fun u h => by omega⟩, fun h => h.elim⟩
theorem ec_RdC_keep {b : Prop} {t : Nat} (h : ec_RdC k bs g0 g b t) (hk : g t ∨ ¬ bs g t) : ec_RdC k bs g0 g b (t + 1) := by
  refine ⟨h.1, fun nb => ⟨(h.2.1 nb).1, fun u hu => ?_⟩, h.2.2⟩
  by_cases e : u = t
  · subst e; exact hk
  · exact (h.2.1 nb).2 u (by omega)
theorem ec_up_mono {t : Nat} (u : Nat) (h : g u) : va_up g t True u := by
  by_cases e : u = t
  · subst e; rw [va_up_self]; trivial
  · rw [va_up_ne g True e]; exact h
theorem ec_RdC_mark {b : Prop} {t : Nat} (h : ec_RdC k bs g0 g b t) (ht : t < k) (hn : ¬ g t) : ec_RdC k bs g0 (va_up g t True) True (t + 1) := by
  refine ⟨fun u hu q => ec_up_mono u (h.1 u hu q), fun nb => absurd trivial nb, fun _ => ?_⟩
  rw [ec_cnt_up ht hn]
  have := ec_cnt_mono h.1
  omega
theorem ec_RdC_end {b : Prop} (h : ec_RdC k bs g0 g b k) : (¬ b → ec_closed k bs g) ∧ (b → ec_cnt k g0 + 1 ≤ ec_cnt k g) := ⟨fun nb u hu => (h.2.1 nb).2 u hu, h.2.2⟩
/-- within a round of the reference -/
def ec_RdR (k : Nat) (bs : (Nat → Prop) → Nat → Prop) (g0 g : Nat → Prop) (t : Nat) : Prop :=
  (∀ u, u < k → g0 u → g u) ∧ (((∀ u, u < k → (g u ↔ g0 u)) ∧ ∀ u, u < t → g u ∨ ¬ bs g u) ∨ (¬ ec_closed k bs g0 ∧ ec_cnt k g0 + 1 ≤ ec_cnt k g))
theorem ec_RdR_0 : ec_RdR k bs g g 0 := ⟨fun _ _ h => h, Or.inl ⟨fun _ _ => Iff.rfl, fun u h => by omega⟩⟩
theorem ec_RdR_step (he : ∀ g g' : Nat → Prop, (∀ u, u < k → (g u ↔ g' u)) → ∀ t, t < k → (bs g t ↔ bs g' t)) {t : Nat} (h : ec_RdR k bs g0 g t) (ht : t < k) :
    ec_RdR k bs g0 (va_up g t (g t ∨ bs g t)) (t + 1) := by
  have mono : ∀ u, g u → va_up g t (g t ∨ bs g t) u := by
    intro u q
    by_cases e : u = t
    · subst e; rw [va_up_self]; exact Or.inl q
    · rw [va_up_ne g _ e]; exact q
  by_cases hb : g t ∨ ¬ bs g t
  · have same : ∀ u, va_up g t (g t ∨ bs g t) u ↔ g u := by
      intro u
      by_cases e : u = t
      · subst e; rw [va_up_self]
        constructor
        · rintro (q | q)
          · exact q
          · rcases hb with z | z
            · exact z
            · exact absurd q z
        · exact Or.inl
      · rw [va_up_ne g _ e]
    refine ⟨fun u hu q => mono u (h.1 u hu q), ?_⟩
    rcases h.2 with ⟨h1, h2⟩ | ⟨h1, h2⟩
    · refine Or.inl ⟨fun u hu => (same u).trans (h1 u hu), fun u hu => ?_⟩
      by_cases hk : u < k
      · rw [he _ g (fun u _ => same u) u hk, same u]
        by_cases e : u = t
        · subst e; exact hb
        · exact h2 u (by omega)
      · omega
    · refine Or.inr ⟨h1, ?_⟩
      have := ec_cnt_mono (k := k) (mk := g) (mk' := va_up g t (g t ∨ bs g t)) (fun u _ q => mono u q)
      omega
  · have hn : ¬ g t := fun q => hb (Or.inl q)
    have hbs : bs g t := Classical.byContradiction fun q => hb (Or.inr q)
    have e : va_up g t (g t ∨ bs g t) = va_up g t True := by
      funext u
      by_cases e : u = t
      · subst e; rw [va_up_self, va_up_self]; exact propext ⟨fun _ => trivial, fun _ => Or.inr hbs⟩
      · rw [va_up_ne g _ e, va_up_ne g _ e]
    rw [e]
    refine ⟨fun u hu q => ec_up_mono u (h.1 u hu q), Or.inr ⟨?_, ?_⟩⟩
    · rcases h.2 with ⟨h1, _⟩ | ⟨h1, _⟩
      · intro c
        rcases c t ht with q | q
        · exact hn ((h1 t ht).mpr q)
        · exact q ((he g g0 h1 t ht).mp hbs)
      · exact h1
    · rw [ec_cnt_up ht hn]
      have := ec_cnt_mono h.1
      omega
theorem ec_RdR_end (he : ∀ g g' : Nat → Prop, (∀ u, u < k → (g u ↔ g' u)) → ∀ t, t < k → (bs g t ↔ bs g' t)) {r : Nat} (h0 : ec_closed k bs g0 ∨ (r : Int) ≤ ec_cnt k g0) (h : ec_RdR k bs g0 g k) :
    ec_closed k bs g ∨ ((r + 1 : Nat) : Int) ≤ ec_cnt k g := by
  rcases h.2 with ⟨_, h2⟩ | ⟨h1, h2⟩
  · exact Or.inl fun u hu => h2 u hu
  · rcases h0 with q | q
    · exact absurd q h1
    · exact Or.inr (by omega)
theorem ec_closed_all (h : ec_closed k bs g ∨ (k : Int) ≤ ec_cnt k g) : ec_closed k bs g := by
  rcases h with h | h
  · exact h
  · exact fun u hu => Or.inl (ec_cnt_all h u hu)
end
