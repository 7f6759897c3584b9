/-! for the reference's walks -/
theorem ec_sgR1 {z : Int64} (h : ¬ z ≤ 0) : nI 1 = ec_sgn z.toInt := ec_sg1 h
theorem ec_sgR0 {z : Int64} (h : z ≤ 0) (h2 : 0 ≤ z) : nI 0 = ec_sgn z.toInt := by
  rw [Int64.le_iff_toInt_le, ec_L0] at h h2
  rw [show z.toInt = 0 by omega]; decide
theorem ec_sgRm {z : Int64} (h : ¬ 0 ≤ z) : (-1 : Int32) = ec_sgn z.toInt := by
  rw [Int64.le_iff_toInt_le, ec_L0] at h
  rw [ec_sgn_neg (by omega)]
theorem ec_onR {xa ya xb yb vx vy : Int32} (h1 : ec_near xa) (h2 : ec_near ya) (h3 : ec_near xb) (h4 : ec_near yb) (h5 : ec_near vx) (h6 : ec_near vy) :
    ((xa.toInt64 - vx.toInt64) * (xb.toInt64 - vx.toInt64) + (ya.toInt64 - vy.toInt64) * (yb.toInt64 - vy.toInt64)).toInt = (xa.toInt - vx.toInt) * (xb.toInt - vx.toInt) + (ya.toInt - vy.toInt) * (yb.toInt - vy.toInt) := by
  unfold ec_near at *
  rw [(ec_dotD (by rw [ec_i2l_sub]; omega) (by rw [ec_i2l_sub]; omega) (by rw [ec_i2l_sub]; omega) (by rw [ec_i2l_sub]; omega)).1]
  rw [ec_i2l_sub, ec_i2l_sub, ec_i2l_sub, ec_i2l_sub]
theorem ec_isB_n {f : Nat} {P : Prop} (hf : f ≤ 1) (h : (f = 0 → ¬ P) ∧ (¬ f = 0 → P)) : ec_isB (nI f) P := by
  by_cases e : f = 0
  · rw [e]; exact ec_isB.f0 (h.1 e)
  · rw [show f = 1 by omega]; exact ec_isB.t1 (h.2 e)
theorem ec_E_s {k : Nat} {f g : Nat → Nat} {i j : Nat} : ec_E (k + 1) f g i j ↔ (ec_E k f g i j ∨ ((f k = i ∧ g k = j) ∨ (f k = j ∧ g k = i))) := by
  constructor
  · rintro ⟨t, ht, q⟩
    by_cases e : t = k
    · subst e; exact Or.inr q
    · exact Or.inl ⟨t, by omega, q⟩
  · rintro (⟨t, ht, q⟩ | q)
    · exact ⟨t, by omega, q⟩
    · exact ⟨k, by omega, q⟩
theorem ec_E_none {f g : Nat → Nat} {i j : Nat} : ¬ ec_E 0 f g i j := fun ⟨t, ht, _⟩ => by omega
/-- nothing in the way of a triangle -/
def ec_clr (n : Nat) (P : Nat → ge_Pt) (L : Nat → Nat → Prop) (a b c : Nat) : Prop :=
  (∀ v, v < n → v ≠ a → v ≠ b → v ≠ c → ¬ (0 ≤ ge_ori (P a) (P b) (P v) ∧ 0 ≤ ge_ori (P b) (P c) (P v) ∧ 0 ≤ ge_ori (P c) (P a) (P v))) ∧
  ∀ x y, L x y → ¬ ge_Cr (P b) (P c) (P x) (P y) ∧ ¬ ge_Cr (P c) (P a) (P x) (P y)
def ec_cr2 (P : Nat → ge_Pt) (f g : Nat → Nat) (a b c t : Nat) : Prop := ¬ ge_Cr (P b) (P c) (P (f t)) (P (g t)) ∧ ¬ ge_Cr (P c) (P a) (P (f t)) (P (g t))
theorem ec_clr_t {n : Nat} {P : Nat → ge_Pt} {k : Nat} {f g : Nat → Nat} {a b c : Nat}
    (h1 : ∀ v, v < n → v ≠ a → v ≠ b → v ≠ c → ¬ (0 ≤ ge_ori (P a) (P b) (P v) ∧ 0 ≤ ge_ori (P b) (P c) (P v) ∧ 0 ≤ ge_ori (P c) (P a) (P v)))
    (h2 : ∀ t, t < k → ec_cr2 P f g a b c t) : ec_clr n P (ec_E k f g) a b c :=
  ⟨h1, fun x y q => ⟨ec_nocross (fun ⟨t, ht, z⟩ => (h2 t ht).1 z) x y q, ec_nocross (fun ⟨t, ht, z⟩ => (h2 t ht).2 z) x y q⟩⟩
theorem ec_clr_f1 {n : Nat} {P : Nat → ge_Pt} {L : Nat → Nat → Prop} {a b c v : Nat} (hv : v < n) (h1 : v ≠ a) (h2 : v ≠ b) (h3 : v ≠ c) (k1 : 0 ≤ ge_ori (P a) (P b) (P v)) (k2 : 0 ≤ ge_ori (P b) (P c) (P v)) (k3 : 0 ≤ ge_ori (P c) (P a) (P v)) : ¬ ec_clr n P L a b c :=
  fun h => h.1 v hv h1 h2 h3 ⟨k1, k2, k3⟩
theorem ec_clr_f2 {n : Nat} {P : Nat → ge_Pt} {k : Nat} {f g : Nat → Nat} {a b c t : Nat} (ht : t < k) (q : ¬ ec_cr2 P f g a b c t) : ¬ ec_clr n P (ec_E k f g) a b c :=
  fun h => q (h.2 _ _ ⟨t, ht, Or.inl ⟨rfl, rfl⟩⟩)
theorem ec_gt0 {r : Int64} {z : Int} (e : r.toInt = z) (h : ¬ r ≤ 0) : 0 < z := by rw [Int64.le_iff_toInt_le, ec_L0, e] at h; omega
theorem ec_le0 {r : Int64} {z : Int} (e : r.toInt = z) (h : r ≤ 0) : z ≤ 0 := by rw [Int64.le_iff_toInt_le, ec_L0, e] at h; exact h
theorem ec_ge0' {r : Int64} {z : Int} (e : r.toInt = z) (h : ¬ r < 0) : 0 ≤ z := by rw [Int64.lt_iff_toInt_lt, ec_L0, e] at h; omega
theorem ec_lt0' {r : Int64} {z : Int} (e : r.toInt = z) (h : r < 0) : ¬ 0 ≤ z := by rw [Int64.lt_iff_toInt_lt, ec_L0, e] at h; omega
theorem ec_irem3 {k : Nat} (hk : k < 3) : nI (k + 1) - nI (k + 1) / nI 3 * nI 3 = nI (ec_nx k) := by
  have : k = 0 ∨ k = 1 ∨ k = 2 := by omega
  rcases this with rfl | rfl | rfl <;> decide
theorem ec_div3 : ∀ k, k < 72 → nI k / nI 3 = nI (k / 3) := by decide +kernel
theorem ec_rem3 : ∀ k, k < 72 → nI k - nI k / nI 3 * nI 3 = nI (k % 3) := by decide +kernel
theorem ec_side_s {c : Nat → Nat} {u x y k : Nat} (hk : k < 3) (h1 : c (3 * u + k) = x) (h2 : c (3 * u + ec_nx k) = y) : ec_side c u x y := ec_side_k.mpr ⟨k, hk, h1, h2⟩
theorem ec_side_n {c : Nat → Nat} {u x y : Nat} (h : ∀ k, k < 3 → ¬ (c (3 * u + k) = x ∧ c (3 * u + ec_nx k) = y)) : ¬ ec_side c u x y := fun q => by
  obtain ⟨k, hk, h1⟩ := ec_side_k.mp q
  exact h k hk h1
theorem ec_acrF_neg {mn : Nat} {mc : Nat → Nat} {k : Nat} (m19 : mn ≤ 24) (hk : k < 3 * mn) : (¬ 0 ≤ ec_acrF mn mc (nI (k / 3)) (nI (k % 3)) → ec_acr mn mc (k / 3) (k % 3) = none) ∧ (0 ≤ ec_acrF mn mc (nI (k / 3)) (nI (k % 3)) → ¬ ec_acr mn mc (k / 3) (k % 3) = none) := by
  have e := (ec_acrF_y (mn := mn) (mc := mc) (t := k / 3) (k := k % 3) (by omega) (by omega) (by omega) rfl).symm
  rw [e]
  cases q : ec_acr mn mc (k / 3) (k % 3) with
  | none => exact ⟨fun _ => rfl, fun z => absurd z (by decide)⟩
  | some u =>
    refine ⟨fun z => ?_, fun _ h => by cases h⟩
    have hu : u < mn := by
      unfold ec_acr ec_own at q
      split at q
      · rename_i h
        cases q
        exact (Classical.choose_spec h).1
      · cases q
    exact absurd (by show (0 : Int32) ≤ nI u; rw [Int32.le_iff_toInt_le, nI_toInt (by omega), ec_z32]; omega) z
theorem ec_pla_R {pn : Nat} {px py : Nat → Int32} {v w : Int32} (h : w < 0 ∨ (1 : Int32) < w) : nI 0 = ec_plaF pn px py v w := by
  apply ec_plaF_2
  · intro q; subst q
    rcases h with h | h <;> exact absurd h (by decide)
  · intro q; subst q
    rcases h with h | h <;> exact absurd h (by decide)
theorem ec_w1 {w : Int32} (h0 : ¬ w < 0) (h1 : w ≤ nI 1) (hn : ¬ w = 0) : w = nI 1 := by
  rw [Int32.lt_iff_toInt_lt, ec_z32] at h0
  rw [Int32.le_iff_toInt_le, nI_toInt (by omega)] at h1
  have : ¬ w.toInt = 0 := fun q => hn (Int32.toInt_inj.mp (by rw [q, ec_z32]))
  apply Int32.toInt_inj.mp
  rw [nI_toInt (by omega)]; omega
theorem ec_nle1 {w : Int32} (h : ¬ w ≤ nI 1) : (1 : Int32) < w := by
  rw [Int32.le_iff_toInt_le, nI_toInt (by omega)] at h
  rw [Int32.lt_iff_toInt_lt, show (1 : Int32).toInt = 1 by decide]; omega
