variable {n : Nat} {L : Nat → Nat → Prop}

/-- Points with the heights k * (x * x + y * y) - e i. -/
def ge_lift (X Y : Nat → Int) (k : Int) (e : Nat → Int) (i : Nat) : ge_Pt := ge_mkp (X i) (Y i) (k * (X i * X i + Y i * Y i) - e i)

variable {X Y : Nat → Int}

def ge_InjXY (n : Nat) (X Y : Nat → Int) : Prop := ∀ i j, i < n → j < n → X i = X j → Y i = Y j → i = j

theorem ge_sq_dist_pos {a b c d : Int} (h : ¬ (a = c ∧ b = d)) : 1 ≤ (a - c) * (a - c) + (b - d) * (b - d) := by
  have key : ∀ z : Int, 0 ≤ z * z ∧ (z ≠ 0 → 1 ≤ z * z) := by
    intro z
    rcases Int.lt_trichotomy z 0 with h | h | h
    · have := ge_mnn h h; omega
    · subst h; simp
    · have := ge_mpp h h; omega
  have k1 := key (a - c)
  have k2 := key (b - d)
  by_cases h1 : a - c = 0
  · have h2 : b - d ≠ 0 := by intro e; apply h; omega
    have := k2.2 h2; omega
  · have := k1.2 h1; omega

theorem ge_lift_Lift (inj : ge_InjXY n X Y) {k : Int} {e : Nat → Int} (he : ∀ i, i < n → 0 ≤ e i ∧ e i < k) :
    ge_Lift n (ge_lift X Y k e) := by
  intro i j m l r hi hj hm hl hr nij nim nil nir s t u w hs ht hu hw hsum hx hy
  simp only [ge_lift, ge_mkp_x, ge_mkp_y, ge_mkp_h] at *
  have d : ∀ p, p < n → i ≠ p → 1 ≤ (X p - X i) * (X p - X i) + (Y p - Y i) * (Y p - Y i) := by
    intro p hp hne
    apply ge_sq_dist_pos
    rintro ⟨h1, h2⟩
    exact hne (inj p i hp hi h1 h2).symm
  -- each term: weight * (k * distance - (e p - e i)) > 0 when weight > 0
  have term : ∀ p, p < n → i ≠ p → ∀ z : Int, 0 ≤ z →
      z ≤ z * (k * ((X p - X i) * (X p - X i) + (Y p - Y i) * (Y p - Y i)) - e p + e i) := by
    intro p hp hne z hz
    have h1 := d p hp hne
    have h2 := he p hp
    have h3 := he i hi
    have h4 : k * 1 ≤ k * ((X p - X i) * (X p - X i) + (Y p - Y i) * (Y p - Y i)) :=
      Int.mul_le_mul_of_nonneg_left h1 (by omega)
    have h5 := Int.mul_nonneg hz (show 0 ≤ k * ((X p - X i) * (X p - X i) + (Y p - Y i) * (Y p - Y i)) - e p + e i - 1 by omega)
    rw [Int.mul_sub] at h5
    omega
  have t1 := term j hj nij s hs
  have t2 := term m hm nim t ht
  have t3 := term l hl nil u hu
  have t4 := term r hr nir w hw
  have e1 : s * (k * ((X j - X i) * (X j - X i) + (Y j - Y i) * (Y j - Y i)) - e j + e i) +
      t * (k * ((X m - X i) * (X m - X i) + (Y m - Y i) * (Y m - Y i)) - e m + e i) +
      u * (k * ((X l - X i) * (X l - X i) + (Y l - Y i) * (Y l - Y i)) - e l + e i) +
      w * (k * ((X r - X i) * (X r - X i) + (Y r - Y i) * (Y r - Y i)) - e r + e i) =
      (s * (k * (X j * X j + Y j * Y j) - e j) + t * (k * (X m * X m + Y m * Y m) - e m) +
        u * (k * (X l * X l + Y l * Y l) - e l) + w * (k * (X r * X r + Y r * Y r) - e r)) -
      (s + t + u + w) * (k * (X i * X i + Y i * Y i) - e i) := by
    grind
  omega

theorem ge_ori_lift (k : Int) (e : Nat → Int) (k' : Int) (e' : Nat → Int) (a b c : Nat) :
    ge_ori (ge_lift X Y k e a) (ge_lift X Y k e b) (ge_lift X Y k e c) = ge_ori (ge_lift X Y k' e' a) (ge_lift X Y k' e' b) (ge_lift X Y k' e' c) := by
  unfold ge_ori ge_lift; rfl

theorem ge_Dd_lift (k : Int) (e : Nat → Int) (a b c d : Nat) :
    ge_Dd (ge_lift X Y k e a) (ge_lift X Y k e b) (ge_lift X Y k e c) (ge_lift X Y k e d) =
    k * ge_Dd (ge_lift X Y 1 (fun _ => 0) a) (ge_lift X Y 1 (fun _ => 0) b) (ge_lift X Y 1 (fun _ => 0) c) (ge_lift X Y 1 (fun _ => 0) d)
    - (e a * ge_ori (ge_lift X Y 1 (fun _ => 0) b) (ge_lift X Y 1 (fun _ => 0) c) (ge_lift X Y 1 (fun _ => 0) d)
     + e b * ge_ori (ge_lift X Y 1 (fun _ => 0) c) (ge_lift X Y 1 (fun _ => 0) a) (ge_lift X Y 1 (fun _ => 0) d)
     + e c * ge_ori (ge_lift X Y 1 (fun _ => 0) a) (ge_lift X Y 1 (fun _ => 0) b) (ge_lift X Y 1 (fun _ => 0) d)
     - e d * ge_ori (ge_lift X Y 1 (fun _ => 0) a) (ge_lift X Y 1 (fun _ => 0) b) (ge_lift X Y 1 (fun _ => 0) c)) := by
  unfold ge_Dd ge_ori ge_lift; simp only [ge_mkp_x, ge_mkp_y, ge_mkp_h]; grind

theorem ge_ori_bound {k : Int} {e : Nat → Int} {a b c : Nat} (hx : ∀ i, i < n → -1000000 ≤ X i ∧ X i ≤ 1000000)
    (hy : ∀ i, i < n → -1000000 ≤ Y i ∧ Y i ≤ 1000000) (ha : a < n) (hb : b < n) (hc : c < n) :
    -8000000000000 ≤ ge_ori (ge_lift X Y k e a) (ge_lift X Y k e b) (ge_lift X Y k e c) ∧
    ge_ori (ge_lift X Y k e a) (ge_lift X Y k e b) (ge_lift X Y k e c) ≤ 8000000000000 := by
  unfold ge_ori ge_lift
  simp only [ge_mkp_x, ge_mkp_y]
  have pr : ∀ p q : Int, -2000000 ≤ p → p ≤ 2000000 → -2000000 ≤ q → q ≤ 2000000 →
      -4000000000000 ≤ p * q ∧ p * q ≤ 4000000000000 := by
    intro p q h1 h2 h3 h4
    have m1 := Int.mul_nonneg (show 0 ≤ 2000000 - p by omega) (show 0 ≤ 2000000 - q by omega)
    have m2 := Int.mul_nonneg (show 0 ≤ 2000000 + p by omega) (show 0 ≤ 2000000 + q by omega)
    have m3 := Int.mul_nonneg (show 0 ≤ 2000000 - p by omega) (show 0 ≤ 2000000 + q by omega)
    have m4 := Int.mul_nonneg (show 0 ≤ 2000000 + p by omega) (show 0 ≤ 2000000 - q by omega)
    constructor <;> grind
  have := hx a ha; have := hx b hb; have := hx c hc
  have := hy a ha; have := hy b hb; have := hy c hc
  have p1 := pr (X b - X a) (Y c - Y a) (by omega) (by omega) (by omega) (by omega)
  have p2 := pr (Y b - Y a) (X c - X a) (by omega) (by omega) (by omega) (by omega)
  omega

def ge_epsr : Nat → Int
  | 0 => 1
  | k + 1 => 35184372088832 * ge_epsr k

theorem ge_epsr_pos (k : Nat) : 1 ≤ ge_epsr k := by
  induction k with
  | zero => simp [ge_epsr]
  | succ k ih => simp only [ge_epsr]; omega

theorem ge_epsr_mono {j k : Nat} (h : j ≤ k) : ge_epsr j ≤ ge_epsr k := by
  induction k with
  | zero => have : j = 0 := by omega
            subst this; exact Int.le_refl _
  | succ k ih =>
    by_cases e : j = k + 1
    · subst e; exact Int.le_refl _
    · have := ih (by omega)
      have := ge_epsr_pos k
      simp only [ge_epsr]; omega

theorem ge_epsr_lt {j k : Nat} (h : j < k) : 35184372088832 * ge_epsr j ≤ ge_epsr k := by
  have := ge_epsr_mono (show j + 1 ≤ k by omega)
  simpa only [ge_epsr] using this

def ge_eps (i : Nat) : Int := ge_epsr (12 - i)
def ge_kay : Int := ge_epsr 14

theorem ge_eps_bnd (i : Nat) : 0 ≤ ge_eps i ∧ ge_eps i < ge_kay := by
  have h1 := ge_epsr_pos (12 - i)
  have h2 := ge_epsr_lt (show 12 - i < 14 by omega)
  unfold ge_eps ge_kay
  omega

theorem ge_eps_lt {i j : Nat} (h : i < j) (hj : j < 12) : 35184372088832 * ge_eps j ≤ ge_eps i :=
  ge_epsr_lt (by omega)

theorem ge_eps_one (i : Nat) : 1 ≤ ge_eps i := ge_epsr_pos _

/-- The least number tells among ge_four on a circle. -/
theorem ge_weigh {ea eb ec ed o1 o2 o3 o4 : Int} (h1 : 0 < o1) (h2 : 0 < o2) (h3 : o3 < 0) (h4 : 0 < o4)
    (b1 : o1 ≤ 8000000000000) (b2 : o2 ≤ 8000000000000)
    (pa : 1 ≤ ea) (pb : 1 ≤ eb) (pc : 1 ≤ ec) (pd : 1 ≤ ed)
    (h : (35184372088832 * ea ≤ ec ∧ 35184372088832 * eb ≤ ec) ∨ (35184372088832 * ea ≤ ed ∧ 35184372088832 * eb ≤ ed)) :
    ea * o1 + eb * o2 + ec * o3 - ed * o4 < 0 := by
  have m1 := Int.mul_nonneg (show 0 ≤ ea by omega) (show 0 ≤ 8000000000000 - o1 by omega)
  have m2 := Int.mul_nonneg (show 0 ≤ eb by omega) (show 0 ≤ 8000000000000 - o2 by omega)
  have m3 := Int.mul_nonneg (show 0 ≤ ec by omega) (show 0 ≤ -o3 - 1 by omega)
  have m4 := Int.mul_nonneg (show 0 ≤ ed by omega) (show 0 ≤ o4 - 1 by omega)
  grind

/-- The points with the heights that the goodness of sides is about. -/
def ge_PP (X Y : Nat → Int) : Nat → ge_Pt := ge_lift X Y ge_kay ge_eps

/-- The circle test without tie: above 0 if d lies inside the circle through a, b, c. -/
def ge_circ (X Y : Nat → Int) (a b c d : Nat) : Int :=
  ge_Dd (ge_lift X Y 1 (fun _ => 0) a) (ge_lift X Y 1 (fun _ => 0) b) (ge_lift X Y 1 (fun _ => 0) c) (ge_lift X Y 1 (fun _ => 0) d)

theorem ge_PP_Lift (inj : ge_InjXY n X Y) : ge_Lift n (ge_PP X Y) :=
  ge_lift_Lift inj (fun i _ => ge_eps_bnd i)

theorem ge_P0_Lift (inj : ge_InjXY n X Y) : ge_Lift n (ge_lift X Y 1 (fun _ => 0)) :=
  ge_lift_Lift inj (fun _ _ => by omega)

theorem ge_bad_iff (inj : ge_InjXY n X Y) (h12 : n ≤ 12) (hx : ∀ i, i < n → -1000000 ≤ X i ∧ X i ≤ 1000000)
    (hy : ∀ i, i < n → -1000000 ≤ Y i ∧ Y i ≤ 1000000)
    {a b c d : Nat} (ha : a < n) (hb : b < n) (hc : c < n) (hd : d < n)
    (h1 : 0 < ge_ori (ge_PP X Y a) (ge_PP X Y b) (ge_PP X Y c)) (h2 : 0 < ge_ori (ge_PP X Y b) (ge_PP X Y a) (ge_PP X Y d)) :
    ((0 < ge_circ X Y a b c d ∨ ge_circ X Y a b c d = 0 ∧ min c d < min a b) →
      0 < ge_Dd (ge_PP X Y a) (ge_PP X Y b) (ge_PP X Y c) (ge_PP X Y d)) ∧
    (¬ (0 < ge_circ X Y a b c d ∨ ge_circ X Y a b c d = 0 ∧ min c d < min a b) →
      ge_Dd (ge_PP X Y a) (ge_PP X Y b) (ge_PP X Y c) (ge_PP X Y d) < 0) := by
  have dl := ge_Dd_lift (X := X) (Y := Y) ge_kay ge_eps a b c d
  have cd : ge_circ X Y a b c d = ge_Dd (ge_lift X Y 1 (fun _ => 0) a) (ge_lift X Y 1 (fun _ => 0) b)
    (ge_lift X Y 1 (fun _ => 0) c) (ge_lift X Y 1 (fun _ => 0) d) := rfl
  rw [← cd] at dl
  have h1' : 0 < ge_ori (ge_lift X Y 1 (fun _ => 0) a) (ge_lift X Y 1 (fun _ => 0) b) (ge_lift X Y 1 (fun _ => 0) c) := h1
  have h2' : 0 < ge_ori (ge_lift X Y 1 (fun _ => 0) b) (ge_lift X Y 1 (fun _ => 0) a) (ge_lift X Y 1 (fun _ => 0) d) := h2
  have s := ge_swp (ge_lift X Y 1 (fun _ => 0) a) (ge_lift X Y 1 (fun _ => 0) b) (ge_lift X Y 1 (fun _ => 0) d)
  have nab : a ≠ b := by intro e; subst e; rw [ge_ori_aab] at h1'; omega
  have nac : a ≠ c := by intro e; subst e; rw [ge_ori_aba] at h1'; omega
  have nbc : b ≠ c := by intro e; subst e; rw [ge_ori_abb] at h1'; omega
  have nad : a ≠ d := by intro e; subst e; rw [ge_ori_abb] at h2'; omega
  have nbd : b ≠ d := by intro e; subst e; rw [ge_ori_aba] at h2'; omega
  have ncd : c ≠ d := by intro e; subst e; omega
  have cv := fun h => ge_convex_of_bad (ge_P0_Lift (n := n) inj) ha hb hc hd h1' h2' h
  rw [← cd] at cv
  have r1 := ge_rot2 (ge_lift X Y 1 (fun _ => 0) a) (ge_lift X Y 1 (fun _ => 0) d) (ge_lift X Y 1 (fun _ => 0) c)
  have r2 := ge_rot (ge_lift X Y 1 (fun _ => 0) d) (ge_lift X Y 1 (fun _ => 0) b) (ge_lift X Y 1 (fun _ => 0) c)
  have b1 := ge_ori_bound (k := 1) (e := fun _ => 0) hx hy hb hc hd
  have b2 := ge_ori_bound (k := 1) (e := fun _ => 0) hx hy hc ha hd
  have b3 := ge_ori_bound (k := 1) (e := fun _ => 0) hx hy ha hb hd
  have b4 := ge_ori_bound (k := 1) (e := fun _ => 0) hx hy ha hb hc
  unfold ge_PP
  revert dl cv r1 r2 b1 b2 b3 b4 s h1' h2'
  generalize ge_ori (ge_lift X Y 1 (fun _ => 0) a) (ge_lift X Y 1 (fun _ => 0) b) (ge_lift X Y 1 (fun _ => 0) c) = o4
  generalize ge_ori (ge_lift X Y 1 (fun _ => 0) a) (ge_lift X Y 1 (fun _ => 0) b) (ge_lift X Y 1 (fun _ => 0) d) = o3
  generalize ge_ori (ge_lift X Y 1 (fun _ => 0) c) (ge_lift X Y 1 (fun _ => 0) a) (ge_lift X Y 1 (fun _ => 0) d) = o2
  generalize ge_ori (ge_lift X Y 1 (fun _ => 0) b) (ge_lift X Y 1 (fun _ => 0) c) (ge_lift X Y 1 (fun _ => 0) d) = o1
  generalize ge_ori (ge_lift X Y 1 (fun _ => 0) b) (ge_lift X Y 1 (fun _ => 0) a) (ge_lift X Y 1 (fun _ => 0) d) = o5
  generalize ge_ori (ge_lift X Y 1 (fun _ => 0) a) (ge_lift X Y 1 (fun _ => 0) d) (ge_lift X Y 1 (fun _ => 0) c) = o6
  generalize ge_ori (ge_lift X Y 1 (fun _ => 0) d) (ge_lift X Y 1 (fun _ => 0) b) (ge_lift X Y 1 (fun _ => 0) c) = o7
  generalize ge_Dd (ge_lift X Y ge_kay ge_eps a) (ge_lift X Y ge_kay ge_eps b) (ge_lift X Y ge_kay ge_eps c) (ge_lift X Y ge_kay ge_eps d) = DD
  generalize ge_circ X Y a b c d = C
  intro dl h1' h2' s cv r1 r2 b1 b2 b3 b4
  -- the tie term is small against ge_kay
  have small : ∀ (i : Nat) (o : Int), -8000000000000 ≤ o → o ≤ 8000000000000 →
      - ge_kay < 4 * (ge_eps i * o) ∧ 4 * (ge_eps i * o) < ge_kay := by
    intro i o l u
    have e1 := ge_eps_one i
    have e2 : 35184372088832 * ge_eps i ≤ ge_kay := ge_epsr_lt (by omega)
    have m1 := Int.mul_nonneg (show 0 ≤ ge_eps i by omega) (show 0 ≤ 8000000000000 - o by omega)
    have m2 := Int.mul_nonneg (show 0 ≤ ge_eps i by omega) (show 0 ≤ 8000000000000 + o by omega)
    rw [Int.mul_sub] at m1
    rw [Int.mul_add] at m2
    omega
  have s1 := small a o1 b1.1 b1.2
  have s2 := small b o2 b2.1 b2.2
  have s3 := small c o3 b3.1 b3.2
  have s4 := small d o4 b4.1 b4.2
  have kp : 1 ≤ ge_kay := ge_epsr_pos 14
  have ea := ge_eps_one a; have eb := ge_eps_one b; have ec := ge_eps_one c; have ed := ge_eps_one d
  rcases Int.lt_trichotomy C 0 with h | h | h
  · constructor
    · intro hh; omega
    · intro _
      have := Int.mul_nonneg (show 0 ≤ ge_kay by omega) (show 0 ≤ -C - 1 by omega)
      rw [Int.mul_sub, Int.mul_neg] at this
      omega
  · subst h
    have cv := cv (Int.le_refl _)
    rw [Int.mul_zero] at dl
    constructor
    · intro hh
      have hm : min c d < min a b := by omega
      have w : ((35184372088832 * ge_eps a ≤ ge_eps c ∧ 35184372088832 * ge_eps b ≤ ge_eps c) ∨
          (35184372088832 * ge_eps a ≤ ge_eps d ∧ 35184372088832 * ge_eps b ≤ ge_eps d)) := by
        rcases Nat.lt_or_ge c d with hcd | hcd
        · left; exact ⟨ge_eps_lt (by omega) (by omega), ge_eps_lt (by omega) (by omega)⟩
        · right; exact ⟨ge_eps_lt (by omega) (by omega), ge_eps_lt (by omega) (by omega)⟩
      have := ge_weigh (show 0 < o1 by omega) (show 0 < o2 by omega) (show o3 < 0 by omega) h1' b1.2 b2.2 ea eb ec ed w
      omega
    · intro hh
      have hm : min a b < min c d := by omega
      have w : ((35184372088832 * ge_eps c ≤ ge_eps a ∧ 35184372088832 * ge_eps d ≤ ge_eps a) ∨
          (35184372088832 * ge_eps c ≤ ge_eps b ∧ 35184372088832 * ge_eps d ≤ ge_eps b)) := by
        rcases Nat.lt_or_ge a b with hab | hab
        · left; exact ⟨ge_eps_lt (by omega) (by omega), ge_eps_lt (by omega) (by omega)⟩
        · right; exact ⟨ge_eps_lt (by omega) (by omega), ge_eps_lt (by omega) (by omega)⟩
      have := ge_weigh (ea := ge_eps c) (eb := ge_eps d) (ec := ge_eps a) (ed := ge_eps b) (o1 := -o3) (o2 := o4) (o3 := -o1) (o4 := o2)
        (by omega) (by omega) (by omega) (by omega) (by omega) (by omega) ec ed ea eb w
      rw [Int.mul_neg, Int.mul_neg] at this
      omega
  · constructor
    · intro _
      have := Int.mul_nonneg (show 0 ≤ ge_kay by omega) (show 0 ≤ C - 1 by omega)
      rw [Int.mul_sub] at this
      omega
    · intro hh; omega
