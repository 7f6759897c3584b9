/-! flips: the table stays a mesh's, and the sum falls -/
section
variable {n : Nat} {P : Nat → ge_Pt} {L : Nat → Nat → Prop} {F : Nat → Nat → Option Nat}
/-- the table is that of a mesh with the links among its sides; or all points lie on a line, and it is empty -/
def ec_G (n : Nat) (P : Nat → ge_Pt) (L : Nat → Nat → Prop) (F : Nat → Nat → Option Nat) : Prop :=
  (ge_Spread n P ∧ ge_Mesh n P (ge_TF F) ∧ ∀ a b, L a b → ge_Edge (ge_TF F) a b) ∨ (¬ ge_Spread n P ∧ ∀ x y, F x y = none)
theorem ec_G_lt (h : ec_G n P L F) {x y z : Nat} (k : F x y = some z) : x < n ∧ y < n ∧ z < n := by
  rcases h with ⟨_, M, _⟩ | ⟨_, h⟩
  · exact M.lt (show ge_TF F x y z from k)
  · rw [h] at k; cases k
theorem ec_G_mesh (h : ec_G n P L F) {x y z : Nat} (k : F x y = some z) : ge_Spread n P ∧ ge_Mesh n P (ge_TF F) ∧ ∀ a b, L a b → ge_Edge (ge_TF F) a b := by
  rcases h with h | ⟨_, h⟩
  · exact h
  · rw [h] at k; cases k
theorem ec_G_flip (h : ec_G n P L F) (inj : ge_Inj n P) (lf : ge_Lift n P) (sy : ∀ a b, L a b → L b a) {a b c d : Nat} (hab : F a b = some c) (hba : F b a = some d) (nl : ¬ L a b)
    (hD : 0 < ge_Dd (P a) (P b) (P c) (P d)) : ec_G n P L (ge_flipF F a b c d) ∧ ge_Phi n P (ge_flipF F a b c d) ≤ ge_Phi n P F - 3 ∧
      (a ≠ b ∧ b ≠ c ∧ a ≠ c ∧ a ≠ d ∧ b ≠ d ∧ c ≠ d) := by
  obtain ⟨sp, M, hl⟩ := ec_G_mesh h hab
  have hab' : ge_TF F a b c := hab
  have hba' : ge_TF F b a d := hba
  have lab := M.lt hab'
  have lba := M.lt hba'
  have cv := ge_convex_of_bad lf lab.1 lab.2.1 lab.2.2 lba.2.2 (M.pos hab') (M.pos hba') (Int.le_of_lt hD)
  refine ⟨Or.inl ⟨sp, ge_flip_mesh M inj hab' hba' cv.1 cv.2, fun x y q => ?_⟩, ge_flip_phi M inj lf hab' hba' hD, ge_flip_ne M inj hab' hba' cv.1 cv.2⟩
  refine ge_flip_edge_keep M inj hab' hba' cv.1 cv.2 (hl x y q) ?_ ?_
  · rintro ⟨rfl, rfl⟩; exact nl q
  · rintro ⟨rfl, rfl⟩; exact nl (sy _ _ q)
end
/-! numbered triangles, in the order of their least corner and the next -/
def ec_En (T : Nat → Nat → Nat → Prop) (k : Nat) (c : Nat → Nat) (m : Nat) : Prop :=
  (∀ t, t < k → T (c (3 * t)) (c (3 * t + 1)) (c (3 * t + 2)) ∧ c (3 * t) < c (3 * t + 1) ∧ c (3 * t) < c (3 * t + 2) ∧ c (3 * t) * 12 + c (3 * t + 1) < m) ∧
  (∀ t u, t < u → u < k → c (3 * t) * 12 + c (3 * t + 1) < c (3 * u) * 12 + c (3 * u + 1)) ∧
  (∀ x y z, T x y z → x < y → x < z → x * 12 + y < m → ∃ t, t < k ∧ c (3 * t) = x ∧ c (3 * t + 1) = y ∧ c (3 * t + 2) = z)
theorem ec_En_agree {T : Nat → Nat → Nat → Prop} {k k' m : Nat} {c c' : Nat → Nat} (h : ec_En T k c m) (h' : ec_En T k' c' m) :
    ∀ s t, t < s → t < k → t < k' ∧ c (3 * t) = c' (3 * t) ∧ c (3 * t + 1) = c' (3 * t + 1) ∧ c (3 * t + 2) = c' (3 * t + 2) := by
  intro s
  induction s with
  | zero => intro t h; omega
  | succ s ih =>
    intro t hts hk
    by_cases e : t < s
    · exact ih t e hk
    have h1 := h.1 t hk
    obtain ⟨t', ht', a1, a2, a3⟩ := h'.2.2 _ _ _ h1.1 h1.2.1 h1.2.2.1 h1.2.2.2
    have ge : ¬ t' < t := by
      intro q
      have b := ih t' (by omega) (by omega)
      have := h.2.1 t' t q hk
      omega
    have tk : t < k' := by omega
    have eq : t' = t := by
      apply Classical.byContradiction; intro ne
      have h2 := h'.1 t tk
      obtain ⟨u, hu, b1, b2, b3⟩ := h.2.2 _ _ _ h2.1 h2.2.1 h2.2.2.1 h2.2.2.2
      have k1 := h'.2.1 t t' (by omega) ht'
      have ut : u < t := by
        apply Classical.byContradiction; intro q
        by_cases e2 : u = t
        · subst e2; omega
        · have := h.2.1 t u (by omega) hu; omega
      have b := ih u (by omega) hu
      have := h'.2.1 u t ut tk
      omega
    subst eq
    exact ⟨tk, a1.symm, a2.symm, a3.symm⟩
theorem ec_En_unique {T : Nat → Nat → Nat → Prop} {k k' m : Nat} {c c' : Nat → Nat} (h : ec_En T k c m) (h' : ec_En T k' c' m) :
    k = k' ∧ ∀ t, t < k → c (3 * t) = c' (3 * t) ∧ c (3 * t + 1) = c' (3 * t + 1) ∧ c (3 * t + 2) = c' (3 * t + 2) := by
  have a := ec_En_agree h h'
  have b := ec_En_agree h' h
  refine ⟨?_, fun t ht => (a (t + 1) t (by omega) ht).2⟩
  rcases Nat.lt_trichotomy k k' with q | q | q
  · have := (b (k + 1) k (by omega) q).1; omega
  · exact q
  · have := (a (k' + 1) k' (by omega) q).1; omega
theorem ec_En_nil (T : Nat → Nat → Nat → Prop) (c : Nat → Nat) : ec_En T 0 c 0 := ⟨fun t h => by omega, fun t u _ h => by omega, fun x y z _ _ _ h => by omega⟩
theorem ec_En_skip {T : Nat → Nat → Nat → Prop} {k m m' : Nat} {c : Nat → Nat} (h : ec_En T k c m) (hm : m ≤ m')
    (hn : ∀ x y z, T x y z → x < y → x < z → m ≤ x * 12 + y → x * 12 + y < m' → False) : ec_En T k c m' := by
  refine ⟨fun t ht => ?_, h.2.1, fun x y z h1 h2 h3 h4 => ?_⟩
  · have := h.1 t ht; exact ⟨this.1, this.2.1, this.2.2.1, by omega⟩
  · by_cases e : x * 12 + y < m
    · exact h.2.2 x y z h1 h2 h3 e
    · exact (hn x y z h1 h2 h3 (by omega) h4).elim
theorem ec_En_add {T : Nat → Nat → Nat → Prop} {k m x y z : Nat} {c c' : Nat → Nat} (h : ec_En T k c m) (hT : T x y z) (hxy : x < y) (hxz : x < z) (hm : m = x * 12 + y)
    (uni : ∀ x' y' z', T x' y' z' → x' < y' → x' < z' → x' * 12 + y' = x * 12 + y → x' = x ∧ y' = y ∧ z' = z)
    (c0 : ∀ i, i < 3 * k → c' i = c i) (c1 : c' (3 * k) = x) (c2 : c' (3 * k + 1) = y) (c3 : c' (3 * k + 2) = z) : ec_En T (k + 1) c' (m + 1) := by
  refine ⟨fun t ht => ?_, fun t u htu hu => ?_, fun x' y' z' h1 h2 h3 h4 => ?_⟩
  · by_cases e : t = k
    · subst e; rw [c1, c2, c3]; exact ⟨hT, hxy, hxz, by omega⟩
    · rw [c0 (3 * t) (by omega), c0 (3 * t + 1) (by omega), c0 (3 * t + 2) (by omega)]
      have := h.1 t (by omega); exact ⟨this.1, this.2.1, this.2.2.1, by omega⟩
  · rw [c0 (3 * t) (by omega), c0 (3 * t + 1) (by omega)]
    by_cases e : u = k
    · subst e; rw [c1, c2]
      have := h.1 t (by omega); omega
    · rw [c0 (3 * u) (by omega), c0 (3 * u + 1) (by omega)]
      exact h.2.1 t u htu (by omega)
  · by_cases e : x' * 12 + y' < m
    · obtain ⟨t, ht, a1, a2, a3⟩ := h.2.2 x' y' z' h1 h2 h3 e
      exact ⟨t, by omega, by rw [c0 _ (by omega)]; exact a1, by rw [c0 _ (by omega)]; exact a2, by rw [c0 _ (by omega)]; exact a3⟩
    · obtain ⟨r1, r2, r3⟩ := uni x' y' z' h1 h2 h3 (by omega)
      exact ⟨k, by omega, by rw [c1, r1], by rw [c2, r2], by rw [c3, r3]⟩
/-- the side from x to y is one of the triangle's with the number t -/
def ec_side (c : Nat → Nat) (t x y : Nat) : Prop := (c (3 * t) = x ∧ c (3 * t + 1) = y) ∨ (c (3 * t + 1) = x ∧ c (3 * t + 2) = y) ∨ (c (3 * t + 2) = x ∧ c (3 * t) = y)
/-- which triangle has which side -/
def ec_Ow (k : Nat) (c : Nat → Nat) (o : Nat → Option Nat) : Prop := ∀ x y, x < 12 → y < 12 → ∀ t, o (x * 12 + y) = some t ↔ (t < k ∧ ec_side c t x y)
theorem ec_Ow_nil (c : Nat → Nat) : ec_Ow 0 c (fun _ => none) := by
  intro x y _ _ t
  constructor
  · intro h; cases h
  · rintro ⟨h, _⟩; omega
theorem ec_Ow_add {k x y z : Nat} {c c' : Nat → Nat} {o : Nat → Option Nat} (h : ec_Ow k c o) (hx : x < 12) (hy : y < 12) (hz : z < 12)
    (nxy : x ≠ y) (nyz : y ≠ z) (nxz : x ≠ z)
    (new : ∀ t, t < k → ¬ ec_side c t x y ∧ ¬ ec_side c t y z ∧ ¬ ec_side c t z x)
    (c0 : ∀ i, i < 3 * k → c' i = c i) (c1 : c' (3 * k) = x) (c2 : c' (3 * k + 1) = y) (c3 : c' (3 * k + 2) = z) :
    ec_Ow (k + 1) c' (va_up (va_up (va_up o (x * 12 + y) (some k)) (y * 12 + z) (some k)) (z * 12 + x) (some k)) := by
  intro p q hp hq t
  have old : ∀ t, t < k → (ec_side c' t p q ↔ ec_side c t p q) := by
    intro t ht
    unfold ec_side
    rw [c0 (3 * t) (by omega), c0 (3 * t + 1) (by omega), c0 (3 * t + 2) (by omega)]
  have now : ec_side c' k p q ↔ ((x = p ∧ y = q) ∨ (y = p ∧ z = q) ∨ (z = p ∧ x = q)) := by
    unfold ec_side
    rw [c1, c2, c3]
  by_cases e : (x = p ∧ y = q) ∨ (y = p ∧ z = q) ∨ (z = p ∧ x = q)
  · have hv : va_up (va_up (va_up o (x * 12 + y) (some k)) (y * 12 + z) (some k)) (z * 12 + x) (some k) (p * 12 + q) = some k := by
      unfold va_up
      rcases e with ⟨rfl, rfl⟩ | ⟨rfl, rfl⟩ | ⟨rfl, rfl⟩
      · rw [if_neg (by omega), if_neg (by omega), if_pos rfl]
      · rw [if_neg (by omega), if_pos rfl]
      · rw [if_pos rfl]
    rw [hv]
    constructor
    · intro q1; cases q1; exact ⟨by omega, now.mpr e⟩
    · rintro ⟨h1, h2⟩
      by_cases e2 : t = k
      · rw [e2]
      · exfalso
        have h3 := (old t (by omega)).mp h2
        have h4 := new t (by omega)
        rcases e with ⟨rfl, rfl⟩ | ⟨rfl, rfl⟩ | ⟨rfl, rfl⟩
        · exact h4.1 h3
        · exact h4.2.1 h3
        · exact h4.2.2 h3
  · have hv : va_up (va_up (va_up o (x * 12 + y) (some k)) (y * 12 + z) (some k)) (z * 12 + x) (some k) (p * 12 + q) = o (p * 12 + q) := by
      rw [va_up_ne _ _ (by omega), va_up_ne _ _ (by omega), va_up_ne _ _ (by omega)]
    rw [hv, h p q hp hq t]
    constructor
    · rintro ⟨h1, h2⟩; exact ⟨by omega, (old t h1).mpr h2⟩
    · rintro ⟨h1, h2⟩
      by_cases e2 : t = k
      · subst e2; exact absurd (now.mp h2) e
      · exact ⟨by omega, (old t (by omega)).mp h2⟩
