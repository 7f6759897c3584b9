variable {n : Nat} {P : Nat → ge_Pt} {L : Nat → Nat → Prop}

def ge_sumN : Nat → (Nat → Int) → Int
  | 0, _ => 0
  | k + 1, f => ge_sumN k f + f k

theorem ge_sumN_congr {k : Nat} {f g : Nat → Int} (h : ∀ i, i < k → f i = g i) : ge_sumN k f = ge_sumN k g := by
  induction k with
  | zero => rfl
  | succ k ih =>
    simp only [ge_sumN]
    rw [ih (fun i hi => h i (by omega)), h k (by omega)]

theorem ge_sumN_le {k : Nat} {f g : Nat → Int} (h : ∀ i, i < k → f i ≤ g i) : ge_sumN k f ≤ ge_sumN k g := by
  induction k with
  | zero => exact Int.le_refl _
  | succ k ih =>
    simp only [ge_sumN]
    have := ih (fun i hi => h i (by omega))
    have := h k (by omega)
    omega

theorem ge_sumN_const (k : Nat) (c : Int) : ge_sumN k (fun _ => c) = k * c := by
  induction k with
  | zero => simp [ge_sumN]
  | succ k ih => simp only [ge_sumN, ih]; grind

/-- One summand is changed. -/
theorem ge_sumN_one {k i : Nat} {f g : Nat → Int} (hi : i < k) (h : ∀ j, j < k → j ≠ i → g j = f j) :
    ge_sumN k g = ge_sumN k f - f i + g i := by
  induction k with
  | zero => omega
  | succ k ih =>
    simp only [ge_sumN]
    by_cases e : i = k
    · subst e
      rw [ge_sumN_congr (f := g) (g := f) (fun j hj => h j (by omega) (by omega))]
      omega
    · rw [ih (by omega) (fun j hj hne => h j (by omega) hne), h k (by omega) (by omega)]
      omega

def ge_updF (F : Nat → Nat → Option Nat) (i j : Nat) (w : Option Nat) : Nat → Nat → Option Nat :=
  fun x y => if x = i ∧ y = j then w else F x y

def ge_sum2 (n : Nat) (f : Nat → Nat → Int) : Int := ge_sumN n fun x => ge_sumN n fun y => f x y

theorem ge_sum2_upd {F : Nat → Nat → Option Nat} {i j : Nat} {w : Option Nat} (g : Nat → Nat → Option Nat → Int)
    (hi : i < n) (hj : j < n) :
    ge_sum2 n (fun x y => g x y (ge_updF F i j w x y)) = ge_sum2 n (fun x y => g x y (F x y)) - g i j (F i j) + g i j w := by
  unfold ge_sum2
  rw [ge_sumN_one (f := fun x => ge_sumN n fun y => g x y (F x y)) hi]
  · simp only
    rw [ge_sumN_one (f := fun y => g i y (F i y)) (g := fun y => g i y (ge_updF F i j w i y)) hj]
    · have : ge_updF F i j w i j = w := by simp [ge_updF]
      rw [this]; omega
    · intro y _ hne
      simp [ge_updF, hne]
  · intro x _ hne
    apply ge_sumN_congr
    intro y _
    simp [ge_updF, hne]

theorem ge_flipF_eq (F : Nat → Nat → Option Nat) {a b c d : Nat}
    (n1 : a ≠ b) (n2 : b ≠ c) (n3 : a ≠ c) (n4 : a ≠ d) (n5 : b ≠ d) (n6 : c ≠ d) :
    ge_flipF F a b c d = ge_updF (ge_updF (ge_updF (ge_updF (ge_updF (ge_updF (ge_updF (ge_updF F a b none) b a none)
      a d (some c)) d c (some a)) c a (some d)) d b (some c)) b c (some d)) c d (some b) := by
  funext x y
  unfold ge_flipF ge_updF
  by_cases h1 : x = a ∧ y = b
  · simp [h1, n1, n2, n3, n4, n5, n6, n1.symm, n2.symm, n3.symm, n4.symm, n5.symm, n6.symm]
  rw [if_neg h1]
  by_cases h2 : x = b ∧ y = a
  · simp [h2, n1, n2, n3, n4, n5, n6, n1.symm, n2.symm, n3.symm, n4.symm, n5.symm, n6.symm]
  rw [if_neg h2]
  by_cases h3 : x = a ∧ y = d
  · simp [h3, n1, n2, n3, n4, n5, n6, n1.symm, n2.symm, n3.symm, n4.symm, n5.symm, n6.symm]
  rw [if_neg h3]
  by_cases h4 : x = d ∧ y = c
  · simp [h4, n1, n2, n3, n4, n5, n6, n1.symm, n2.symm, n3.symm, n4.symm, n5.symm, n6.symm]
  rw [if_neg h4]
  by_cases h5 : x = c ∧ y = a
  · simp [h5, n1, n2, n3, n4, n5, n6, n1.symm, n2.symm, n3.symm, n4.symm, n5.symm, n6.symm]
  rw [if_neg h5]
  by_cases h6 : x = d ∧ y = b
  · simp [h6, n1, n2, n3, n4, n5, n6, n1.symm, n2.symm, n3.symm, n4.symm, n5.symm, n6.symm]
  rw [if_neg h6]
  by_cases h7 : x = b ∧ y = c
  · simp [h7, n1, n2, n3, n4, n5, n6, n1.symm, n2.symm, n3.symm, n4.symm, n5.symm, n6.symm]
  rw [if_neg h7, if_neg h7, if_neg h6, if_neg h5, if_neg h4, if_neg h3, if_neg h2, if_neg h1]

/-- Whether vertex v lies in the circle of the triangle over x y. -/
def ge_inC (P : Nat → ge_Pt) (v x y : Nat) : Option Nat → Int
  | none => 0
  | some z => if 0 < ge_Dd (P x) (P y) (P z) (P v) then 1 else 0

def ge_Phi (n : Nat) (P : Nat → ge_Pt) (F : Nat → Nat → Option Nat) : Int :=
  ge_sumN n fun v => ge_sum2 n fun x y => ge_inC P v x y (F x y)

theorem ge_inC_bnd (P : Nat → ge_Pt) (v x y : Nat) (o : Option Nat) : 0 ≤ ge_inC P v x y o ∧ ge_inC P v x y o ≤ 1 := by
  unfold ge_inC
  cases o with
  | none => simp
  | some z => simp only; split <;> omega

theorem ge_Phi_nonneg (F : Nat → Nat → Option Nat) : 0 ≤ ge_Phi n P F := by
  have z : ∀ k, ge_sumN k (fun _ => (0 : Int)) = 0 := by intro k; rw [ge_sumN_const]; omega
  unfold ge_Phi ge_sum2
  rw [← z n]
  apply ge_sumN_le
  intro v _
  rw [← z n]
  apply ge_sumN_le
  intro x _
  rw [← z n]
  apply ge_sumN_le
  intro y _
  exact (ge_inC_bnd P v x y _).1

theorem ge_Phi_le (F : Nat → Nat → Option Nat) : ge_Phi n P F ≤ n * (n * (n * 1)) := by
  unfold ge_Phi ge_sum2
  rw [← ge_sumN_const n (n * (n * 1))]
  apply ge_sumN_le
  intro v _
  rw [← ge_sumN_const n (n * 1)]
  apply ge_sumN_le
  intro x _
  rw [← ge_sumN_const n 1]
  apply ge_sumN_le
  intro y _
  exact (ge_inC_bnd P v x y _).2

theorem ge_flip_phi {F : Nat → Nat → Option Nat} (M : ge_Mesh n P (ge_TF F)) (inj : ge_Inj n P) (lf : ge_Lift n P) {a b c d : Nat}
    (hab : ge_TF F a b c) (hba : ge_TF F b a d) (hD : 0 < ge_Dd (P a) (P b) (P c) (P d)) :
    ge_Phi n P (ge_flipF F a b c d) ≤ ge_Phi n P F - 3 := by
  have lab := M.lt hab
  have lba := M.lt hba
  have cv := ge_convex_of_bad lf lab.1 lab.2.1 lab.2.2 lba.2.2 (M.pos hab) (M.pos hba) (Int.le_of_lt hD)
  obtain ⟨n1, n2, n3, n4, n5, n6⟩ := ge_flip_ne M inj hab hba cv.1 cv.2
  have ncd := ge_flip_no_cd M inj hab hba cv.1 cv.2
  have fcd : F c d = none := by
    cases h : F c d with
    | none => rfl
    | some z => exact absurd h (ncd z).1
  have fdc : F d c = none := by
    cases h : F d c with
    | none => rfl
    | some z => exact absurd h (ncd z).2
  have f1 : F a d = some b := M.rot hba
  have f2 : F d b = some a := M.rot (M.rot hba)
  have f3 : F b c = some a := M.rot hab
  have f4 : F c a = some b := M.rot (M.rot hab)
  have f5 : F a b = some c := hab
  have f6 : F b a = some d := hba
  have per : ∀ v, ge_sum2 n (fun x y => ge_inC P v x y (ge_flipF F a b c d x y)) =
      ge_sum2 n (fun x y => ge_inC P v x y (F x y)) - 3 * ge_inC P v a b (some c) - 3 * ge_inC P v b a (some d)
        + 3 * ge_inC P v a d (some c) + 3 * ge_inC P v d b (some c) := by
    intro v
    rw [ge_flipF_eq F n1 n2 n3 n4 n5 n6]
    rw [ge_sum2_upd (g := ge_inC P v) lab.2.2 lba.2.2, ge_sum2_upd (g := ge_inC P v) lab.2.1 lab.2.2,
      ge_sum2_upd (g := ge_inC P v) lba.2.2 lab.2.1, ge_sum2_upd (g := ge_inC P v) lab.2.2 lab.1,
      ge_sum2_upd (g := ge_inC P v) lba.2.2 lab.2.2, ge_sum2_upd (g := ge_inC P v) lab.1 lba.2.2,
      ge_sum2_upd (g := ge_inC P v) lab.2.1 lab.1, ge_sum2_upd (g := ge_inC P v) lab.1 lab.2.1]
    have u : ∀ (G : Nat → Nat → Option Nat) i j w x y, ¬ (x = i ∧ y = j) → ge_updF G i j w x y = G x y := by
      intro G i j w x y h; simp [ge_updF, h]
    have w1 : ∀ p q r, ge_Dd (P q) (P r) (P p) (P v) = ge_Dd (P p) (P q) (P r) (P v) := fun p q r => ge_Dd_rot _ _ _ _
    have g1 : ge_inC P v b c (some a) = ge_inC P v a b (some c) := by simp only [ge_inC]; rw [w1 a b c]
    have g2 : ge_inC P v c a (some b) = ge_inC P v a b (some c) := by simp only [ge_inC]; rw [w1 b c a, w1 a b c]
    have g3 : ge_inC P v a d (some b) = ge_inC P v b a (some d) := by simp only [ge_inC]; rw [w1 b a d]
    have g4 : ge_inC P v d b (some a) = ge_inC P v b a (some d) := by simp only [ge_inC]; rw [w1 a d b, w1 b a d]
    have g5 : ge_inC P v d c (some a) = ge_inC P v a d (some c) := by simp only [ge_inC]; rw [w1 a d c]
    have g6 : ge_inC P v c a (some d) = ge_inC P v a d (some c) := by simp only [ge_inC]; rw [w1 d c a, w1 a d c]
    have g7 : ge_inC P v b c (some d) = ge_inC P v d b (some c) := by simp only [ge_inC]; rw [w1 d b c]
    have g8 : ge_inC P v c d (some b) = ge_inC P v d b (some c) := by simp only [ge_inC]; rw [w1 b c d, w1 d b c]
    have g9 : ∀ x y, ge_inC P v x y none = 0 := fun _ _ => rfl
    rw [u _ _ _ _ c d (by omega), u _ _ _ _ c d (by omega), u _ _ _ _ c d (by omega), u _ _ _ _ c d (by omega),
      u _ _ _ _ c d (by omega), u _ _ _ _ c d (by omega), u _ _ _ _ c d (by omega)]
    rw [u _ _ _ _ b c (by omega), u _ _ _ _ b c (by omega), u _ _ _ _ b c (by omega), u _ _ _ _ b c (by omega),
      u _ _ _ _ b c (by omega), u _ _ _ _ b c (by omega)]
    rw [u _ _ _ _ d b (by omega), u _ _ _ _ d b (by omega), u _ _ _ _ d b (by omega), u _ _ _ _ d b (by omega),
      u _ _ _ _ d b (by omega)]
    rw [u _ _ _ _ c a (by omega), u _ _ _ _ c a (by omega), u _ _ _ _ c a (by omega), u _ _ _ _ c a (by omega)]
    rw [u _ _ _ _ d c (by omega), u _ _ _ _ d c (by omega), u _ _ _ _ d c (by omega)]
    rw [u _ _ _ _ a d (by omega), u _ _ _ _ a d (by omega)]
    rw [u _ _ _ _ b a (by omega)]
    rw [fcd, fdc, f1, f2, f3, f4, f5, f6, g1, g2, g3, g4, g5, g6, g7, g8, g9, g9, g9, g9]
    omega
  have le : ∀ v, v < n → ge_inC P v a d (some c) + ge_inC P v d b (some c) ≤ ge_inC P v a b (some c) + ge_inC P v b a (some d) := by
    intro v hv
    have fc := ge_flip_count lf lab.1 lab.2.1 lab.2.2 lba.2.2 hv n1 n3 n4 n2 n5 n6 hD
    simp only [ge_inC]
    obtain ⟨c1, c2, c3⟩ := fc
    by_cases y1 : 0 < ge_Dd (P a) (P d) (P c) (P v) <;> by_cases y2 : 0 < ge_Dd (P d) (P b) (P c) (P v)
    · have := c3 y1 y2
      simp [y1, y2, this.1, this.2]
    · rcases c1 y1 with h | h <;> simp only [y1, y2, h, if_true, if_false] <;> split <;> omega
    · rcases c2 y2 with h | h <;> simp only [y1, y2, h, if_true, if_false] <;> split <;> omega
    · simp only [y1, y2, if_false]; split <;> split <;> omega
  have at_c : ge_inC P c a d (some c) = 0 ∧ ge_inC P c d b (some c) = 0 ∧ ge_inC P c b a (some d) = 1 := by
    simp only [ge_inC]
    have e1 : ge_Dd (P a) (P d) (P c) (P c) = 0 := ge_Dd_last _ _ _
    have e2 : ge_Dd (P d) (P b) (P c) (P c) = 0 := ge_Dd_last _ _ _
    have e3 : ge_Dd (P b) (P a) (P d) (P c) = ge_Dd (P a) (P b) (P c) (P d) := by unfold ge_Dd ge_ori; grind
    rw [e1, e2, e3]
    simp [hD]
  unfold ge_Phi
  have key : ge_sumN n (fun v => ge_sum2 n fun x y => ge_inC P v x y (ge_flipF F a b c d x y)) ≤
      ge_sumN n (fun v => (ge_sum2 n fun x y => ge_inC P v x y (F x y)) - (if v = c then 3 else 0)) := by
    apply ge_sumN_le
    intro v hv
    rw [per v]
    have h1 := le v hv
    split
    · rename_i e; subst e
      have h2 := ge_inC_bnd P v a b (some v)
      rw [at_c.1, at_c.2.1, at_c.2.2]
      rw [at_c.1, at_c.2.1, at_c.2.2] at h1
      omega
    · omega
  have tot : ge_sumN n (fun v => (ge_sum2 n fun x y => ge_inC P v x y (F x y)) - (if v = c then 3 else 0)) =
      ge_sumN n (fun v => ge_sum2 n fun x y => ge_inC P v x y (F x y)) - 3 := by
    rw [ge_sumN_one (f := fun v => ge_sum2 n fun x y => ge_inC P v x y (F x y)) lab.2.2]
    · simp; omega
    · intro j _ hne; simp [hne]
  omega
