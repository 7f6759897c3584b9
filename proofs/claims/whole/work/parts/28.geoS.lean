variable {n : Nat} {P : Nat → ge_Pt} {T : Nat → Nat → Nat → Prop}

theorem ge_Mesh.pre (M : ge_Mesh n P T) : ge_Pre n P (ge_Edge T) := by
  refine ge_Pre.mk ?lt ?ne (fun h => h.symm) (fun h _ hv n1 n2 => M.clearE h hv n1 n2) (fun h k => M.crossE h k)
  case lt =>
    rintro a b ⟨c, h | h⟩
    · exact ⟨(M.lt h).1, (M.lt h).2.1⟩
    · exact ⟨(M.lt h).2.1, (M.lt h).1⟩
  case ne =>
    rintro a b ⟨c, h | h⟩
    · exact (M.ne h).1
    · exact (M.ne h).1.symm

theorem ge_cnt3_le {p q : Nat → Nat → Nat → Prop} (h : ∀ a b c, p a b c → q a b c) : ge_cnt3 n p ≤ ge_cnt3 n q :=
  ge_sumN_le fun a _ => ge_sumN_le fun b _ => ge_sumN_le fun c _ => ge_ind_le (h a b c)

/-- A third of all turned triangles, if one of each three turns is taken. -/
theorem ge_third_of {S : Nat → Nat → Nat → Prop} (hS : ∀ a b c, S a b c → T a b c) (ge_rot : ∀ {a b c}, T a b c → T b c a)
    (one : ∀ a b c, T a b c → (S a b c ∧ ¬ S b c a ∧ ¬ S c a b) ∨ (¬ S a b c ∧ S b c a ∧ ¬ S c a b) ∨ (¬ S a b c ∧ ¬ S b c a ∧ S c a b)) :
    ge_cnt3 n T = 3 * ge_cnt3 n S := by
  have split3 : ge_cnt3 n T = ge_cnt3 n S + ge_cnt3 n (fun a b c => S b c a) + ge_cnt3 n (fun a b c => S c a b) := by
    unfold ge_cnt3
    rw [← ge_sumN_add, ← ge_sumN_add]
    apply ge_sumN_congr; intro a _
    rw [← ge_sumN_add, ← ge_sumN_add]
    apply ge_sumN_congr; intro b _
    rw [← ge_sumN_add, ← ge_sumN_add]
    apply ge_sumN_congr; intro c _
    by_cases hT : T a b c
    · rw [ge_ind_true hT]
      rcases one a b c hT with ⟨h1, h2, h3⟩ | ⟨h1, h2, h3⟩ | ⟨h1, h2, h3⟩
      · rw [ge_ind_true h1, ge_ind_false h2, ge_ind_false h3]; rfl
      · rw [ge_ind_false h1, ge_ind_true h2, ge_ind_false h3]; rfl
      · rw [ge_ind_false h1, ge_ind_false h2, ge_ind_true h3]; rfl
    · rw [ge_ind_false hT, ge_ind_false (fun h => hT (hS _ _ _ h)), ge_ind_false (fun h => hT (ge_rot (ge_rot (hS _ _ _ h)))),
        ge_ind_false (fun h => hT (ge_rot (hS _ _ _ h)))]
      rfl
  have r1 := ge_cnt3_rot n S
  have r2 := ge_cnt3_rot n (fun a b c => S b c a)
  have r3 : ge_cnt3 n (fun a b c => S c a b) = ge_cnt3 n S := by rw [← r1]; exact r2
  omega

theorem ge_Mesh.count (M : ge_Mesh n P T) (inj : ge_Inj n P) (h12 : n ≤ 12) {K : Int}
    (hK : ∀ i j, i < n → j < n → ge_el K (P i) = ge_el K (P j) → i = j) :
    ge_cnt3 n (fun a b c => T a b c ∧ a < b ∧ a < c) ≤ 19 := by
  by_cases sp : ge_Spread n P
  · obtain ⟨E', hp, hs⟩ := M.pre.extend
    have hT : ∀ a b c, T a b c → ge_TE n P E' a b c := by
      intro a b c h
      exact ⟨hs _ _ ⟨c, Or.inl h⟩, hs _ _ ⟨a, Or.inl (M.rot h)⟩, hs _ _ ⟨b, Or.inl (M.rot (M.rot h))⟩, M.pos h,
        fun v hv => M.empty h hv⟩
    have e1 : ge_cnt3 n T = 3 * ge_cnt3 n (fun a b c => T a b c ∧ a < b ∧ a < c) := by
      apply ge_third_of (fun a b c h => h.1) M.rot
      intro a b c h
      have h2 := M.rot h
      have h3 := M.rot h2
      have ne := M.ne h
      rcases Nat.lt_trichotomy a b with k | k | k <;> rcases Nat.lt_trichotomy b c with l | l | l <;>
        rcases Nat.lt_trichotomy a c with m | m | m
      all_goals first
        | omega
        | exact Or.inl ⟨⟨h, by omega, by omega⟩, by omega, by omega⟩
        | exact Or.inr (Or.inl ⟨by omega, ⟨h2, by omega, by omega⟩, by omega⟩)
        | exact Or.inr (Or.inr ⟨by omega, by omega, ⟨h3, by omega, by omega⟩⟩)
    have e2 := ge_mid_three hp inj hK
    have e3 := ge_mid_le hp inj hK sp
    have e4 := ge_cnt3_le (n := n) hT
    omega
  · have : ge_cnt3 n (fun a b c => T a b c ∧ a < b ∧ a < c) = 0 := by
      apply ge_sumN_zero; intro a _
      apply ge_sumN_zero; intro b _
      apply ge_sumN_zero; intro c _
      apply ge_ind_false
      rintro ⟨h, _⟩
      have l := M.lt h
      have := M.pos h
      exact sp ⟨a, b, c, l.1, l.2.1, l.2.2, by omega⟩
    omega

/-! The sum of three products in ge_limbs of 22 bits. -/
theorem ge_limbs {a b c d e f : Int} :
    let u := fun z : Int => z / 4194304
    let l := fun z : Int => z % 4194304
    let high := u a * u b + u c * u d + u e * u f
    let mid := (u a * l b + l a * u b) + (u c * l d + l c * u d) + (u e * l f + l e * u f)
    let low := l a * l b + l c * l d + l e * l f
    let mid' := mid + low / 4194304
    let high' := high + mid' / 4194304
    a * b + c * d + e * f = high' * 17592186044416 + (mid' % 4194304) * 4194304 + low % 4194304 := by
  intro u l high mid low mid' high'
  have dm : ∀ z : Int, z = u z * 4194304 + l z := by intro z; simp only [u, l]; omega
  have e1 : a * b = (u a * 4194304 + l a) * (u b * 4194304 + l b) := by rw [← dm a, ← dm b]
  have e2 : c * d = (u c * 4194304 + l c) * (u d * 4194304 + l d) := by rw [← dm c, ← dm d]
  have e3 : e * f = (u e * 4194304 + l e) * (u f * 4194304 + l f) := by rw [← dm e, ← dm f]
  have e4 : a * b + c * d + e * f = high * 17592186044416 + mid * 4194304 + low := by
    rw [e1, e2, e3]; simp only [high, mid, low]; grind
  have e5 : low = (low / 4194304) * 4194304 + low % 4194304 := by omega
  have e6 : mid' = (mid' / 4194304) * 4194304 + mid' % 4194304 := by omega
  rw [e4]
  simp only [high', mid'] at *
  omega

theorem ge_limbs_sign {s high mid low : Int} (h : s = high * 17592186044416 + (mid % 4194304) * 4194304 + low % 4194304) :
    (0 < s ↔ 0 < high ∨ (high = 0 ∧ ¬ (mid % 4194304 = 0 ∧ low % 4194304 = 0))) ∧
    (s = 0 ↔ high = 0 ∧ mid % 4194304 = 0 ∧ low % 4194304 = 0) ∧ (s < 0 ↔ high < 0) := by
  refine ⟨?_, ?_, ?_⟩ <;> constructor <;> intro k <;> omega

/-- The sum for the circle, written out. -/
theorem ge_circ_eq (X Y : Nat → Int) (a b c d : Nat) :
    ge_circ X Y a b c d =
      ((X d - X a) * (X d - X a) + (Y d - Y a) * (Y d - Y a)) * ((X c - X b) * (Y d - Y b) - (Y c - Y b) * (X d - X b)) +
      ((X d - X b) * (X d - X b) + (Y d - Y b) * (Y d - Y b)) * ((X a - X c) * (Y d - Y c) - (Y a - Y c) * (X d - X c)) +
      ((X d - X c) * (X d - X c) + (Y d - Y c) * (Y d - Y c)) * ((X b - X a) * (Y d - Y a) - (Y b - Y a) * (X d - X a)) := by
  unfold ge_circ ge_Dd ge_ori ge_lift
  simp only [ge_mkp_x, ge_mkp_y, ge_mkp_h]
  grind
