/-! Plane geometry over whole coordinates: signs of turns, lifted heights. My own work; no kit needed. -/

def ge_Pt : Type := Int × Int × Int
def ge_Pt.x (p : ge_Pt) : Int := p.1
def ge_Pt.y (p : ge_Pt) : Int := p.2.1
def ge_Pt.h (p : ge_Pt) : Int := p.2.2
def ge_mkp (x y h : Int) : ge_Pt := (x, y, h)
theorem ge_mkp_x (x y h : Int) : (ge_mkp x y h).x = x := rfl
theorem ge_mkp_y (x y h : Int) : (ge_mkp x y h).y = y := rfl
theorem ge_mkp_h (x y h : Int) : (ge_mkp x y h).h = h := rfl

def ge_ori (a b c : ge_Pt) : Int := (b.x - a.x) * (c.y - a.y) - (b.y - a.y) * (c.x - a.x)

/-- Above 0 if the lifted d lies below the plane through the lifted a, b, c (counterclockwise). -/
def ge_Dd (a b c d : ge_Pt) : Int := a.h * ge_ori b c d + b.h * ge_ori c a d + c.h * ge_ori a b d - d.h * ge_ori a b c

def ge_Btw (a b v : ge_Pt) : Prop :=
  ge_ori a b v = 0 ∧ min a.x b.x ≤ v.x ∧ v.x ≤ max a.x b.x ∧ min a.y b.y ≤ v.y ∧ v.y ≤ max a.y b.y

def ge_Cr (a b c d : ge_Pt) : Prop := ge_ori a b c * ge_ori a b d < 0 ∧ ge_ori c d a * ge_ori c d b < 0

theorem ge_plu (a b c d e : ge_Pt) : ge_ori a b c * ge_ori a d e - ge_ori a b d * ge_ori a c e + ge_ori a b e * ge_ori a c d = 0 := by
  unfold ge_ori; grind
theorem ge_four (a b c d : ge_Pt) : ge_ori a b c - ge_ori a b d + ge_ori a c d - ge_ori b c d = 0 := by
  unfold ge_ori; grind
theorem ge_rot (a b c : ge_Pt) : ge_ori b c a = ge_ori a b c := by unfold ge_ori; grind
theorem ge_rot2 (a b c : ge_Pt) : ge_ori c a b = ge_ori a b c := by unfold ge_ori; grind
theorem ge_swp (a b c : ge_Pt) : ge_ori b a c = - ge_ori a b c := by unfold ge_ori; grind
theorem ge_swp2 (a b c : ge_Pt) : ge_ori a c b = - ge_ori a b c := by unfold ge_ori; grind
theorem ge_swp3 (a b c : ge_Pt) : ge_ori c b a = - ge_ori a b c := by unfold ge_ori; grind
theorem ge_ori_aab (a b : ge_Pt) : ge_ori a a b = 0 := by unfold ge_ori; grind
theorem ge_ori_aba (a b : ge_Pt) : ge_ori a b a = 0 := by unfold ge_ori; grind
theorem ge_ori_abb (a b : ge_Pt) : ge_ori a b b = 0 := by unfold ge_ori; grind

theorem ge_Dd_rot (a b c d : ge_Pt) : ge_Dd b c a d = ge_Dd a b c d := by unfold ge_Dd ge_ori; grind
theorem ge_Dd_swap (a b c d : ge_Pt) : ge_Dd b a c d = - ge_Dd a b c d := by unfold ge_Dd ge_ori; grind
theorem ge_Dd_swap34 (a b c d : ge_Pt) : ge_Dd a b d c = - ge_Dd a b c d := by unfold ge_Dd ge_ori; grind
theorem ge_Dd_uvqp (p q u v : ge_Pt) : ge_Dd u v q p = - ge_Dd p q u v := by unfold ge_Dd ge_ori; grind
theorem ge_Dd_last (a b c : ge_Pt) : ge_Dd a b c c = 0 := by unfold ge_Dd ge_ori; grind

theorem ge_Dd_walk (p q r s v : ge_Pt) :
    ge_Dd p q r v * ge_ori q p s = ge_Dd p q r s * ge_ori q p v + ge_Dd q p s v * ge_ori p q r := by
  unfold ge_Dd ge_ori; grind
theorem ge_Dd_mix (p q r u v : ge_Pt) :
    ge_Dd p q u v * ge_ori p q r = ge_Dd p q r v * ge_ori p q u - ge_Dd p q r u * ge_ori p q v := by
  unfold ge_Dd ge_ori; grind

/-! signs of products -/
theorem ge_mpp {a b : Int} (h : 0 < a) (k : 0 < b) : 0 < a * b := Int.mul_pos h k
theorem ge_mpn {a b : Int} (h : 0 < a) (k : b < 0) : a * b < 0 := Int.mul_neg_of_pos_of_neg h k
theorem ge_mnp {a b : Int} (h : a < 0) (k : 0 < b) : a * b < 0 := Int.mul_neg_of_neg_of_pos h k
theorem ge_mnn {a b : Int} (h : a < 0) (k : b < 0) : 0 < a * b := Int.mul_pos_of_neg_of_neg h k

theorem ge_pos_of_mul {a b : Int} (h : 0 < a) (k : 0 < a * b) : 0 < b := by
  apply Classical.byContradiction; intro hb
  have := Int.mul_nonneg (Int.le_of_lt h) (show 0 ≤ -b by omega)
  grind
theorem ge_neg_of_mul {a b : Int} (h : 0 < a) (k : a * b < 0) : b < 0 := by
  apply Classical.byContradiction; intro hb
  have := Int.mul_nonneg (Int.le_of_lt h) (show 0 ≤ b by omega)
  grind
theorem ge_nonneg_of_mul {a b : Int} (h : 0 < a) (k : 0 ≤ a * b) : 0 ≤ b := by
  apply Classical.byContradiction; intro hb
  have := ge_mpn h (show b < 0 by omega)
  grind
theorem ge_nonpos_of_mul {a b : Int} (h : 0 < a) (k : a * b ≤ 0) : b ≤ 0 := by
  apply Classical.byContradiction; intro hb
  have := ge_mpp h (show 0 < b by omega)
  grind

theorem ge_mul_neg_iff {a b : Int} : a * b < 0 ↔ (0 < a ∧ b < 0) ∨ (a < 0 ∧ 0 < b) := by
  constructor
  · intro h
    rcases Int.lt_trichotomy a 0 with ha | ha | ha
    · right; refine ⟨ha, ?_⟩
      exact ge_neg_of_mul (a := -a) (by omega) (b := -b) (by grind) |> fun h => by omega
    · subst ha; grind
    · left; exact ⟨ha, ge_neg_of_mul ha h⟩
  · rintro (⟨h, k⟩ | ⟨h, k⟩)
    · exact ge_mpn h k
    · exact ge_mnp h k

/-- A crossing, seen so that u lies to the left of p q. -/
def ge_Xs (p q u v : ge_Pt) : Prop := 0 < ge_ori p q u ∧ ge_ori p q v < 0 ∧ ge_ori u v p < 0 ∧ 0 < ge_ori u v q

theorem ge_Cr_iff (p q u v : ge_Pt) : ge_Cr p q u v ↔ ge_Xs p q u v ∨ ge_Xs q p u v := by
  unfold ge_Cr ge_Xs
  rw [ge_mul_neg_iff, ge_mul_neg_iff]
  have e1 := ge_four p q u v
  have e2 := ge_rot p u v
  have e3 := ge_rot q u v
  have e4 := ge_swp p q u
  have e5 := ge_swp p q v
  constructor
  · rintro ⟨⟨h1, h2⟩ | ⟨h1, h2⟩, ⟨h3, h4⟩ | ⟨h3, h4⟩⟩ <;> grind
  · rintro (⟨h1, h2, h3, h4⟩ | ⟨h1, h2, h3, h4⟩) <;> grind

theorem ge_Xs_flip {p q u v : ge_Pt} (h : ge_Xs p q u v) : ge_Xs q p v u := by
  unfold ge_Xs at *
  have := ge_swp p q u; have := ge_swp p q v; have := ge_swp u v p; have := ge_swp u v q
  grind
theorem ge_Xs_turn {p q u v : ge_Pt} (h : ge_Xs p q u v) : ge_Xs u v q p := by
  unfold ge_Xs at *
  have := ge_swp p q u; have := ge_swp p q v
  grind

/-! A finite set has no endless chain of a strict order. -/
theorem ge_countP_lt {α} (p q : α → Bool) (S : List α) (h : ∀ z, q z = true → p z = true)
    (y : α) (hy : y ∈ S) (hp : p y = true) (hq : q y = false) : S.countP q < S.countP p := by
  induction S with
  | nil => simp at hy
  | cons a t ih =>
    have hle : t.countP q ≤ t.countP p := List.countP_mono_left (fun z _ => h z)
    rcases List.mem_cons.mp hy with rfl | hy
    · simp [hp, hq]; omega
    · have := ih hy
      have := h a
      simp only [List.countP_cons]
      split <;> split <;> simp_all <;> omega

theorem ge_fin_ind {α} (S : List α) (R : α → α → Prop) (irr : ∀ x, ¬ R x x)
    (tr : ∀ x y z, R x y → R y z → R x z) (C : α → Prop)
    (step : ∀ x, x ∈ S → (∀ y, y ∈ S → R x y → C y) → C x) : ∀ x, x ∈ S → C x := by
  classical
  have key : ∀ k x, x ∈ S → S.countP (fun z => decide (R x z)) ≤ k → C x := by
    intro k
    induction k with
    | zero =>
      intro x hx hk
      apply step x hx
      intro y hy hr
      have : 0 < S.countP (fun z => decide (R x z)) := List.countP_pos_iff.mpr ⟨y, hy, by simpa using hr⟩
      omega
    | succ k ih =>
      intro x hx hk
      apply step x hx
      intro y hy hr
      apply ih y hy
      have := ge_countP_lt (fun z => decide (R x z)) (fun z => decide (R y z)) S
        (by intro z hz; simp at *; exact tr x y z hr hz) y hy (by simpa using hr) (by simpa using irr y)
      omega
  intro x hx
  exact key _ x hx (Nat.le_refl _)

/-- A finite nonempty part has a greatest element. -/
theorem ge_fin_max {α} (S : List α) (R : α → α → Prop) (irr : ∀ x, ¬ R x x)
    (tr : ∀ x y z, R x y → R y z → R x z) (x : α) (hx : x ∈ S) :
    ∃ y, y ∈ S ∧ ∀ z, z ∈ S → ¬ R y z := by
  have := ge_fin_ind S R irr tr (fun _ => ∃ y, y ∈ S ∧ ∀ z, z ∈ S → ¬ R y z) (by
    intro x hx ih
    classical
    by_cases h : ∃ y, y ∈ S ∧ R x y
    · obtain ⟨y, hy, hr⟩ := h
      exact ih y hy hr
    · refine ⟨x, hx, fun z hz hr => h ⟨z, hz, hr⟩⟩)
  exact this x hx
