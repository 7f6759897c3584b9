/-! no more triangles than there can be; carving -/
theorem ec_sumN_lt {k i : Nat} {f g : Nat → Int} (hi : i < k) (h : ∀ j, j < k → f j ≤ g j) (h1 : f i + 1 ≤ g i) : ge_sumN k f + 1 ≤ ge_sumN k g := by
  induction k with
  | zero => omega
  | succ k ih =>
    simp only [ge_sumN]
    by_cases e : i = k
    · subst e
      have := ge_sumN_le (k := i) (f := f) (g := g) (fun j hj => h j (by omega))
      omega
    · have := ih (by omega) (fun j hj => h j (by omega))
      have := h k (by omega)
      omega
theorem ec_cnt3_lt {n : Nat} {p q : Nat → Nat → Nat → Prop} (h : ∀ a b c, p a b c → q a b c) {a b c : Nat} (ha : a < n) (hb : b < n) (hc : c < n)
    (hq : q a b c) (hp : ¬ p a b c) : ge_cnt3 n p + 1 ≤ ge_cnt3 n q := by
  refine ec_sumN_lt ha (fun x _ => ge_cnt2_le (fun y z _ _ => h x y z)) ?_
  exact ge_cnt2_lt (n := n) (p := p a) (q := q a) (h a) hb hc hq hp
theorem ec_cnt3_nonneg {n : Nat} (p : Nat → Nat → Nat → Prop) : 0 ≤ ge_cnt3 n p :=
  ec_sumN_nonneg fun _ _ => ge_cnt2_nonneg _
theorem ec_En_count {T : Nat → Nat → Nat → Prop} {n k m : Nat} {c : Nat → Nat} (h : ec_En T k c m) (lt : ∀ a b c, T a b c → a < n ∧ b < n ∧ c < n) :
    (k : Int) ≤ ge_cnt3 n (fun a b c => T a b c ∧ a < b ∧ a < c) := by
  have key : ∀ j, j ≤ k → (j : Int) ≤ ge_cnt3 n (fun x y z => ∃ t, t < j ∧ c (3 * t) = x ∧ c (3 * t + 1) = y ∧ c (3 * t + 2) = z) := by
    intro j
    induction j with
    | zero => intro _; exact ec_cnt3_nonneg _
    | succ j ih =>
      intro hj
      have h0 := ih (by omega)
      have hT := h.1 j (by omega)
      have l := lt _ _ _ hT.1
      have := ec_cnt3_lt (n := n) (p := fun x y z => ∃ t, t < j ∧ c (3 * t) = x ∧ c (3 * t + 1) = y ∧ c (3 * t + 2) = z)
        (q := fun x y z => ∃ t, t < j + 1 ∧ c (3 * t) = x ∧ c (3 * t + 1) = y ∧ c (3 * t + 2) = z)
        (fun x y z ⟨t, ht, q⟩ => ⟨t, by omega, q⟩) l.1 l.2.1 l.2.2 ⟨j, by omega, rfl, rfl, rfl⟩
        (by
          rintro ⟨t, ht, q1, q2, q3⟩
          have := h.2.1 t j ht (by omega)
          omega)
      omega
  have h1 := key k (Nat.le_refl _)
  have h2 : ge_cnt3 n (fun x y z => ∃ t, t < k ∧ c (3 * t) = x ∧ c (3 * t + 1) = y ∧ c (3 * t + 2) = z) ≤ ge_cnt3 n (fun a b c => T a b c ∧ a < b ∧ a < c) := by
    apply ge_cnt3_le
    rintro x y z ⟨t, ht, rfl, rfl, rfl⟩
    have := h.1 t ht
    exact ⟨this.1, this.2.1, this.2.2.1⟩
  omega
/-- what carving takes away: what holds a seed, and what lies beside it over a side that is no link -/
def ec_Gone (T : Nat → Nat → Nat → Prop) (L : Nat → Nat → Prop) (Sd : Nat → Nat → Nat → Prop) (x y z : Nat) : Prop :=
  ∀ G : Nat → Nat → Nat → Prop, (∀ a b c, T a b c → Sd a b c → G a b c) → (∀ a b c, G a b c → G b c a) →
    (∀ a b c d, T a b c → T b a d → ¬ L a b → G b a d → G a b c) → G x y z
section
variable {T : Nat → Nat → Nat → Prop} {L : Nat → Nat → Prop} {Sd : Nat → Nat → Nat → Prop}
theorem ec_Gone_seed {a b c : Nat} (h : T a b c) (s : Sd a b c) : ec_Gone T L Sd a b c := fun _ g1 _ _ => g1 a b c h s
theorem ec_Gone_rot {a b c : Nat} (h : ec_Gone T L Sd a b c) : ec_Gone T L Sd b c a := fun G g1 g2 g3 => g2 _ _ _ (h G g1 g2 g3)
theorem ec_Gone_step {a b c d : Nat} (h : T a b c) (k : T b a d) (nl : ¬ L a b) (g : ec_Gone T L Sd b a d) : ec_Gone T L Sd a b c :=
  fun G g1 g2 g3 => g3 a b c d h k nl (g G g1 g2 g3)
def ec_rot3 (A B C : Nat → Nat) (t x y z : Nat) : Prop := (A t = x ∧ B t = y ∧ C t = z) ∨ (B t = x ∧ C t = y ∧ A t = z) ∨ (C t = x ∧ A t = y ∧ B t = z)
def ec_sd (A B C : Nat → Nat) (t x y : Nat) : Prop := (A t = x ∧ B t = y) ∨ (B t = x ∧ C t = y) ∨ (C t = x ∧ A t = y)
theorem ec_rot3_rot {A B C : Nat → Nat} {t x y z : Nat} (h : ec_rot3 A B C t x y z) : ec_rot3 A B C t y z x := by
  unfold ec_rot3 at *; omega
theorem ec_rot3_sd {A B C : Nat → Nat} {t x y z : Nat} (h : ec_rot3 A B C t x y z) : ec_sd A B C t x y := by
  unfold ec_rot3 ec_sd at *; omega
theorem ec_marks {A B C : Nat → Nat} {k : Nat} (mk : Nat → Prop)
    (rot : ∀ a b c, T a b c → T b c a) (tri : ∀ t, t < k → T (A t) (B t) (C t)) (cmp : ∀ a b c, T a b c → ∃ t, t < k ∧ ec_rot3 A B C t a b c)
    (one : ∀ t u a b c, t < k → u < k → ec_rot3 A B C t a b c → ec_rot3 A B C u a b c → t = u)
    (sr : ∀ a b c, T a b c → Sd a b c → Sd b c a)
    (h1 : ∀ t, t < k → mk t → ec_Gone T L Sd (A t) (B t) (C t)) (h2 : ∀ t, t < k → Sd (A t) (B t) (C t) → mk t)
    (h3 : ∀ t u x y, t < k → u < k → ec_sd A B C t x y → ec_sd A B C u y x → ¬ L x y → mk u → mk t) :
    ∀ t, t < k → (mk t ↔ ec_Gone T L Sd (A t) (B t) (C t)) := by
  intro t ht
  refine ⟨h1 t ht, fun g => ?_⟩
  have sd3 : ∀ t a b c, t < k → ec_rot3 A B C t a b c → Sd a b c → Sd (A t) (B t) (C t) := by
    intro t a b c ht h s
    have hT := tri t ht
    rcases h with ⟨rfl, rfl, rfl⟩ | ⟨rfl, rfl, rfl⟩ | ⟨rfl, rfl, rfl⟩
    · exact s
    · exact sr _ _ _ (rot _ _ _ (rot _ _ _ hT)) (sr _ _ _ (rot _ _ _ hT) s)
    · exact sr _ _ _ (rot _ _ _ (rot _ _ _ hT)) s
  obtain ⟨u, hu, hr, hm⟩ := g (fun x y z => ∃ u, u < k ∧ ec_rot3 A B C u x y z ∧ mk u)
    (fun a b c hT s => by
      obtain ⟨u, hu, hr⟩ := cmp a b c hT
      exact ⟨u, hu, hr, h2 u hu (sd3 u a b c hu hr s)⟩)
    (fun a b c ⟨u, hu, hr, hm⟩ => ⟨u, hu, ec_rot3_rot hr, hm⟩)
    (fun a b c d hT hT' nl ⟨u, hu, hr, hm⟩ => by
      obtain ⟨v, hv, hr'⟩ := cmp a b c hT
      exact ⟨v, hv, hr', h3 v u a b hv hu (ec_rot3_sd hr') (ec_rot3_sd hr) nl hm⟩)
  rw [one t u _ _ _ ht hu (Or.inl ⟨rfl, rfl, rfl⟩) hr]; exact hm
end
