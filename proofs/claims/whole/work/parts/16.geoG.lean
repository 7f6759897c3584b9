variable {n : Nat} {P : Nat → ge_Pt} {L : Nat → Nat → Prop}

/-- The triangles of a table of third corners. -/
def ge_TF (F : Nat → Nat → Option Nat) : Nat → Nat → Nat → Prop := fun a b c => F a b = some c

def ge_flipF (F : Nat → Nat → Option Nat) (a b c d : Nat) : Nat → Nat → Option Nat := fun x y =>
  if x = a ∧ y = b then none else if x = b ∧ y = a then none
  else if x = a ∧ y = d then some c else if x = d ∧ y = c then some a else if x = c ∧ y = a then some d
  else if x = d ∧ y = b then some c else if x = b ∧ y = c then some d else if x = c ∧ y = d then some b
  else F x y

/-- The cases of a flipped table. -/
theorem ge_flipF_cases {F : Nat → Nat → Option Nat} {a b c d x y z : Nat} (h : ge_TF (ge_flipF F a b c d) x y z) :
    ¬ (x = a ∧ y = b) ∧ ¬ (x = b ∧ y = a) ∧
    ((x = a ∧ y = d ∧ z = c) ∨ (x = d ∧ y = c ∧ z = a) ∨ (x = c ∧ y = a ∧ z = d) ∨
     (x = d ∧ y = b ∧ z = c) ∨ (x = b ∧ y = c ∧ z = d) ∨ (x = c ∧ y = d ∧ z = b) ∨
     (ge_TF F x y z ∧ ¬ (x = a ∧ y = d) ∧ ¬ (x = d ∧ y = c) ∧ ¬ (x = c ∧ y = a) ∧
       ¬ (x = d ∧ y = b) ∧ ¬ (x = b ∧ y = c) ∧ ¬ (x = c ∧ y = d))) := by
  unfold ge_TF ge_flipF at h
  by_cases h1 : x = a ∧ y = b
  · simp [h1] at h
  by_cases h2 : x = b ∧ y = a
  · rw [if_neg h1, if_pos h2] at h; cases h
  refine ⟨h1, h2, ?_⟩
  rw [if_neg h1, if_neg h2] at h
  by_cases h3 : x = a ∧ y = d
  · rw [if_pos h3] at h; cases h; exact Or.inl ⟨h3.1, h3.2, rfl⟩
  right
  rw [if_neg h3] at h
  by_cases h4 : x = d ∧ y = c
  · rw [if_pos h4] at h; cases h; exact Or.inl ⟨h4.1, h4.2, rfl⟩
  right
  rw [if_neg h4] at h
  by_cases h5 : x = c ∧ y = a
  · rw [if_pos h5] at h; cases h; exact Or.inl ⟨h5.1, h5.2, rfl⟩
  right
  rw [if_neg h5] at h
  by_cases h6 : x = d ∧ y = b
  · rw [if_pos h6] at h; cases h; exact Or.inl ⟨h6.1, h6.2, rfl⟩
  right
  rw [if_neg h6] at h
  by_cases h7 : x = b ∧ y = c
  · rw [if_pos h7] at h; cases h; exact Or.inl ⟨h7.1, h7.2, rfl⟩
  right
  rw [if_neg h7] at h
  by_cases h8 : x = c ∧ y = d
  · rw [if_pos h8] at h; cases h; exact Or.inl ⟨h8.1, h8.2, rfl⟩
  right
  rw [if_neg h8] at h
  exact ⟨h, h3, h4, h5, h6, h7, h8⟩

theorem ge_flipF_else {F : Nat → Nat → Option Nat} {a b c d x y : Nat}
    (h1 : ¬ (x = a ∧ y = b)) (h2 : ¬ (x = b ∧ y = a)) (h3 : ¬ (x = a ∧ y = d)) (h4 : ¬ (x = d ∧ y = c))
    (h5 : ¬ (x = c ∧ y = a)) (h6 : ¬ (x = d ∧ y = b)) (h7 : ¬ (x = b ∧ y = c)) (h8 : ¬ (x = c ∧ y = d)) :
    ge_flipF F a b c d x y = F x y := by
  unfold ge_flipF
  rw [if_neg h1, if_neg h2, if_neg h3, if_neg h4, if_neg h5, if_neg h6, if_neg h7, if_neg h8]

theorem ge_flip_ne {F : Nat → Nat → Option Nat} (M : ge_Mesh n P (ge_TF F)) (inj : ge_Inj n P) {a b c d : Nat} (hab : ge_TF F a b c) (hba : ge_TF F b a d) (q1 : 0 < ge_ori (P a) (P d) (P c)) (q2 : 0 < ge_ori (P d) (P b) (P c)) : a ≠ b ∧ b ≠ c ∧ a ≠ c ∧ a ≠ d ∧ b ≠ d ∧ c ≠ d := by
  have h1 := M.ne hab
  have h2 := M.ne hba
  refine ⟨h1.1, h1.2.1, h1.2.2, h2.2.1, h2.2.2, ?_⟩
  intro e; subst e; rw [ge_ori_abb] at q1; omega

theorem ge_flip_cr {F : Nat → Nat → Option Nat} (M : ge_Mesh n P (ge_TF F)) (inj : ge_Inj n P) {a b c d : Nat} (hab : ge_TF F a b c) (hba : ge_TF F b a d) (q1 : 0 < ge_ori (P a) (P d) (P c)) (q2 : 0 < ge_ori (P d) (P b) (P c)) : ge_Xs (P d) (P c) (P a) (P b) := by
  have p1 := M.pos hab
  have p2 := M.pos hba
  have e1 : ge_ori (P d) (P c) (P a) = ge_ori (P a) (P d) (P c) := by unfold ge_ori; grind
  have e2 : ge_ori (P d) (P c) (P b) = - ge_ori (P d) (P b) (P c) := by unfold ge_ori; grind
  have e3 := ge_swp (P a) (P b) (P d)
  exact ⟨by omega, by omega, by omega, p1⟩

theorem ge_flip_no_cd {F : Nat → Nat → Option Nat} (M : ge_Mesh n P (ge_TF F)) (inj : ge_Inj n P) {a b c d : Nat} (hab : ge_TF F a b c) (hba : ge_TF F b a d) (q1 : 0 < ge_ori (P a) (P d) (P c)) (q2 : 0 < ge_ori (P d) (P b) (P c)) (z : Nat) : ¬ ge_TF F c d z ∧ ¬ ge_TF F d c z := by
  have hx := ge_flip_cr M inj hab hba q1 q2
  constructor
  · intro h
    exact M.crossE ⟨z, Or.inr h⟩ ⟨c, Or.inl hab⟩ (ge_Xs_Cr hx)
  · intro h
    exact M.crossE ⟨z, Or.inl h⟩ ⟨c, Or.inl hab⟩ (ge_Xs_Cr hx)

theorem ge_flip_edge {F : Nat → Nat → Option Nat} (M : ge_Mesh n P (ge_TF F)) (inj : ge_Inj n P) {a b c d : Nat} (hab : ge_TF F a b c) (hba : ge_TF F b a d) (q1 : 0 < ge_ori (P a) (P d) (P c)) (q2 : 0 < ge_ori (P d) (P b) (P c)) {x y z : Nat} (h : ge_TF (ge_flipF F a b c d) x y z) :
    (ge_Edge (ge_TF F) x y ∧ ¬ (x = a ∧ y = b) ∧ ¬ (x = b ∧ y = a)) ∨ (x = c ∧ y = d) ∨ (x = d ∧ y = c) := by
  obtain ⟨h1, h2, h3⟩ := ge_flipF_cases h
  rcases h3 with ⟨rfl, rfl, rfl⟩ | ⟨rfl, rfl, rfl⟩ | ⟨rfl, rfl, rfl⟩ | ⟨rfl, rfl, rfl⟩ | ⟨rfl, rfl, rfl⟩ | ⟨rfl, rfl, rfl⟩ | h3
  · exact Or.inl ⟨⟨_, Or.inl (M.rot hba)⟩, h1, h2⟩
  · exact Or.inr (Or.inr ⟨rfl, rfl⟩)
  · exact Or.inl ⟨⟨_, Or.inl (M.rot (M.rot hab))⟩, h1, h2⟩
  · exact Or.inl ⟨⟨_, Or.inl (M.rot (M.rot hba))⟩, h1, h2⟩
  · exact Or.inl ⟨⟨_, Or.inl (M.rot hab)⟩, h1, h2⟩
  · exact Or.inr (Or.inl ⟨rfl, rfl⟩)
  · exact Or.inl ⟨⟨_, Or.inl h3.1⟩, h1, h2⟩

theorem ge_flip_nocross_cd {F : Nat → Nat → Option Nat} (M : ge_Mesh n P (ge_TF F)) (inj : ge_Inj n P) {a b c d : Nat} (hab : ge_TF F a b c) (hba : ge_TF F b a d) (q1 : 0 < ge_ori (P a) (P d) (P c)) (q2 : 0 < ge_ori (P d) (P b) (P c)) {x y : Nat} (he : ge_Edge (ge_TF F) x y) (h1 : ¬ (x = a ∧ y = b)) (h2 : ¬ (x = b ∧ y = a)) :
    ¬ ge_Cr (P d) (P c) (P x) (P y) := by
  intro hc
  rcases (ge_Cr_iff _ _ _ _).mp hc with h | h
  · exact h1 (ge_flip_cross M inj hab hba q1 q2 he h)
  · have := ge_flip_cross M inj hab hba q1 q2 he.symm (ge_Xs_flip h)
    exact h2 ⟨this.2, this.1⟩

theorem ge_flip_some {F : Nat → Nat → Option Nat} (M : ge_Mesh n P (ge_TF F)) (inj : ge_Inj n P) {a b c d : Nat} (hab : ge_TF F a b c) (hba : ge_TF F b a d) (q1 : 0 < ge_ori (P a) (P d) (P c)) (q2 : 0 < ge_ori (P d) (P b) (P c)) (x y z : Nat) :
    ((x = a ∧ y = d ∧ z = c) ∨ (x = d ∧ y = c ∧ z = a) ∨ (x = c ∧ y = a ∧ z = d) ∨
     (x = d ∧ y = b ∧ z = c) ∨ (x = b ∧ y = c ∧ z = d) ∨ (x = c ∧ y = d ∧ z = b)) →
    ge_TF (ge_flipF F a b c d) x y z := by
  have ne := ge_flip_ne M inj hab hba q1 q2
  obtain ⟨n1, n2, n3, n4, n5, n6⟩ := ne
  rintro (⟨rfl, rfl, rfl⟩ | ⟨rfl, rfl, rfl⟩ | ⟨rfl, rfl, rfl⟩ | ⟨rfl, rfl, rfl⟩ | ⟨rfl, rfl, rfl⟩ | ⟨rfl, rfl, rfl⟩) <;>
  · unfold ge_TF ge_flipF
    simp [n1, n2, n3, n4, n5, n6, n1.symm, n2.symm, n3.symm, n4.symm, n5.symm, n6.symm]

theorem ge_flip_keep {F : Nat → Nat → Option Nat} (M : ge_Mesh n P (ge_TF F)) (inj : ge_Inj n P) {a b c d : Nat} (hab : ge_TF F a b c) (hba : ge_TF F b a d) (q1 : 0 < ge_ori (P a) (P d) (P c)) (q2 : 0 < ge_ori (P d) (P b) (P c)) {x y z : Nat} (h : ge_TF F x y z) (h1 : ¬ (x = a ∧ y = b)) (h2 : ¬ (x = b ∧ y = a)) :
    ∃ w, ge_TF (ge_flipF F a b c d) x y w := by
  have some' := ge_flip_some M inj hab hba q1 q2
  by_cases h3 : x = a ∧ y = d
  · exact ⟨c, some' _ _ _ (by simp [h3])⟩
  by_cases h4 : x = d ∧ y = c
  · exact ⟨a, some' _ _ _ (by simp [h4])⟩
  by_cases h5 : x = c ∧ y = a
  · exact ⟨d, some' _ _ _ (by simp [h5])⟩
  by_cases h6 : x = d ∧ y = b
  · exact ⟨c, some' _ _ _ (by simp [h6])⟩
  by_cases h7 : x = b ∧ y = c
  · exact ⟨d, some' _ _ _ (by simp [h7])⟩
  by_cases h8 : x = c ∧ y = d
  · exact ⟨b, some' _ _ _ (by simp [h8])⟩
  refine ⟨z, ?_⟩
  unfold ge_TF at h ⊢
  rw [ge_flipF_else h1 h2 h3 h4 h5 h6 h7 h8]; exact h

theorem ge_flip_edge_keep {F : Nat → Nat → Option Nat} (M : ge_Mesh n P (ge_TF F)) (inj : ge_Inj n P) {a b c d : Nat} (hab : ge_TF F a b c) (hba : ge_TF F b a d) (q1 : 0 < ge_ori (P a) (P d) (P c)) (q2 : 0 < ge_ori (P d) (P b) (P c)) {x y : Nat} (h : ge_Edge (ge_TF F) x y) (h1 : ¬ (x = a ∧ y = b)) (h2 : ¬ (x = b ∧ y = a)) :
    ge_Edge (ge_TF (ge_flipF F a b c d)) x y := by
  obtain ⟨z, h | h⟩ := h
  · obtain ⟨w, hw⟩ := ge_flip_keep M inj hab hba q1 q2 h h1 h2
    exact ⟨w, Or.inl hw⟩
  · obtain ⟨w, hw⟩ := ge_flip_keep M inj hab hba q1 q2 h (fun k => h2 ⟨k.2, k.1⟩) (fun k => h1 ⟨k.2, k.1⟩)
    exact ⟨w, Or.inr hw⟩

theorem ge_flip_mesh {F : Nat → Nat → Option Nat} (M : ge_Mesh n P (ge_TF F)) (inj : ge_Inj n P) {a b c d : Nat} (hab : ge_TF F a b c) (hba : ge_TF F b a d) (q1 : 0 < ge_ori (P a) (P d) (P c)) (q2 : 0 < ge_ori (P d) (P b) (P c)) : ge_Mesh n P (ge_TF (ge_flipF F a b c d)) := by
  have ne := ge_flip_ne M inj hab hba q1 q2
  have lab := M.lt hab
  have lba := M.lt hba
  have ncd := ge_flip_no_cd M inj hab hba q1 q2
  have r1 : ge_ori (P d) (P c) (P a) = ge_ori (P a) (P d) (P c) := ge_rot _ _ _
  have r2 : ge_ori (P c) (P a) (P d) = ge_ori (P a) (P d) (P c) := ge_rot2 _ _ _
  have r3 : ge_ori (P b) (P c) (P d) = ge_ori (P d) (P b) (P c) := ge_rot _ _ _
  have r4 : ge_ori (P c) (P d) (P b) = ge_ori (P d) (P b) (P c) := ge_rot2 _ _ _
  have some' := ge_flip_some M inj hab hba q1 q2
  have clr : ∀ {x y z v}, ge_TF (ge_flipF F a b c d) x y z → v < n → v ≠ x → v ≠ y → ¬ ge_Btw (P x) (P y) (P v) := by
    intro x y z v h hv h1 h2
    rcases ge_flip_edge M inj hab hba q1 q2 h with ⟨he, _, _⟩ | ⟨rfl, rfl⟩ | ⟨rfl, rfl⟩
    · exact M.clearE he hv h1 h2
    · exact ge_flip_clear M inj hab hba q1 q2 hv h1 h2
    · exact fun hb => ge_flip_clear M inj hab hba q1 q2 hv h2 h1 (ge_Btw_comm hb)
  refine ge_Mesh.mk ?lt ?pos ?ge_rot ?uni ?ext ?clear ?cross ?empty ?full
  case lt =>
    intro x y z h
    have := (ge_flipF_cases h).2.2
    rcases this with ⟨rfl, rfl, rfl⟩ | ⟨rfl, rfl, rfl⟩ | ⟨rfl, rfl, rfl⟩ | ⟨rfl, rfl, rfl⟩ | ⟨rfl, rfl, rfl⟩ | ⟨rfl, rfl, rfl⟩ | h3
    · exact ⟨lab.1, lba.2.2, lab.2.2⟩
    · exact ⟨lba.2.2, lab.2.2, lab.1⟩
    · exact ⟨lab.2.2, lab.1, lba.2.2⟩
    · exact ⟨lba.2.2, lab.2.1, lab.2.2⟩
    · exact ⟨lab.2.1, lab.2.2, lba.2.2⟩
    · exact ⟨lab.2.2, lba.2.2, lab.2.1⟩
    · exact M.lt h3.1
  case pos =>
    intro x y z h
    have := (ge_flipF_cases h).2.2
    rcases this with ⟨rfl, rfl, rfl⟩ | ⟨rfl, rfl, rfl⟩ | ⟨rfl, rfl, rfl⟩ | ⟨rfl, rfl, rfl⟩ | ⟨rfl, rfl, rfl⟩ | ⟨rfl, rfl, rfl⟩ | h3
    · exact q1
    · rw [r1]; exact q1
    · rw [r2]; exact q1
    · exact q2
    · rw [r3]; exact q2
    · rw [r4]; exact q2
    · exact M.pos h3.1
  case ge_rot =>
    intro x y z h
    obtain ⟨k1, k2, this⟩ := ge_flipF_cases h
    rcases this with ⟨rfl, rfl, rfl⟩ | ⟨rfl, rfl, rfl⟩ | ⟨rfl, rfl, rfl⟩ | ⟨rfl, rfl, rfl⟩ | ⟨rfl, rfl, rfl⟩ | ⟨rfl, rfl, rfl⟩ | ⟨h3, h4⟩
    all_goals try (apply some'; simp; done)
    have h5 := M.rot h3
    have u1 : ∀ p q r, ge_TF F p q r → y = p → z = q → x = r := by
      intro p q r hp e1 e2; subst e1; subst e2; exact M.uni h5 hp
    have v1 := u1 a b c hab
    have v2 := u1 b a d hba
    have v3 := u1 a d b (M.rot hba)
    have v4 := u1 d b a (M.rot (M.rot hba))
    have v5 := u1 b c a (M.rot hab)
    have v6 := u1 c a b (M.rot (M.rot hab))
    have v7 : ¬ (y = c ∧ z = d) := by rintro ⟨e1, e2⟩; subst e1; subst e2; exact (ncd x).1 h5
    have v8 : ¬ (y = d ∧ z = c) := by rintro ⟨e1, e2⟩; subst e1; subst e2; exact (ncd x).2 h5
    have : ge_flipF F a b c d y z = F y z := by
      apply ge_flipF_else
      · rintro ⟨e1, e2⟩; exact h4.2.2.1 ⟨v1 e1 e2, e1⟩
      · rintro ⟨e1, e2⟩; exact h4.2.2.2.1 ⟨v2 e1 e2, e1⟩
      · rintro ⟨e1, e2⟩; exact k2 ⟨v3 e1 e2, e1⟩
      · exact v8
      · rintro ⟨e1, e2⟩; exact h4.2.2.2.2.1 ⟨v6 e1 e2, e1⟩
      · rintro ⟨e1, e2⟩; exact h4.1 ⟨v4 e1 e2, e1⟩
      · rintro ⟨e1, e2⟩; exact k1 ⟨v5 e1 e2, e1⟩
      · exact v7
    unfold ge_TF at h5 ⊢
    rw [this]; exact h5
  case uni =>
    intro x y z w h1 h2
    unfold ge_TF at h1 h2
    rw [h1] at h2
    exact Option.some.inj h2
  case ext =>
    intro x y z v h hv hp
    have hxy : ¬ (x = a ∧ y = b) ∧ ¬ (x = b ∧ y = a) := by
      have := ge_flipF_cases h
      exact ⟨fun k => this.2.1 ⟨k.2, k.1⟩, fun k => this.1 ⟨k.2, k.1⟩⟩
    rcases ge_flip_edge M inj hab hba q1 q2 h with ⟨he, _, _⟩ | ⟨rfl, rfl⟩ | ⟨rfl, rfl⟩
    · have : ∃ w, ge_TF F x y w := by
        obtain ⟨w, hw | hw⟩ := he
        · exact M.ext hw hv hp
        · exact ⟨w, hw⟩
      obtain ⟨w, hw⟩ := this
      exact ge_flip_keep M inj hab hba q1 q2 hw hxy.1 hxy.2
    · exact ⟨a, some' _ _ _ (by simp)⟩
    · exact ⟨b, some' _ _ _ (by simp)⟩
  case clear => exact clr
  case cross =>
    intro x y z p q r h1 h2
    have nc := fun {x y} => @ge_flip_nocross_cd n P F M inj a b c d hab hba q1 q2 x y
    rcases ge_flip_edge M inj hab hba q1 q2 h1 with ⟨he, k1, k2⟩ | ⟨rfl, rfl⟩ | ⟨rfl, rfl⟩ <;>
      rcases ge_flip_edge M inj hab hba q1 q2 h2 with ⟨he', k1', k2'⟩ | ⟨rfl, rfl⟩ | ⟨rfl, rfl⟩
    · exact M.crossE he he'
    · exact fun hc => nc he k1 k2 (ge_Cr_swap (ge_Cr_comm2 hc))
    · exact fun hc => nc he k1 k2 (ge_Cr_swap hc)
    · exact fun hc => nc he' k1' k2' (ge_Cr_comm hc)
    · exact fun hc => by unfold ge_Cr at hc; simp only [ge_ori_aba, ge_ori_abb] at hc; omega
    · exact fun hc => by unfold ge_Cr at hc; simp only [ge_ori_aba, ge_ori_abb] at hc; omega
    · exact fun hc => nc he' k1' k2' hc
    · exact fun hc => by unfold ge_Cr at hc; simp only [ge_ori_aba, ge_ori_abb] at hc; omega
    · exact fun hc => by unfold ge_Cr at hc; simp only [ge_ori_aba, ge_ori_abb] at hc; omega
  case empty =>
    intro x y z v h hv
    have e1 := ge_flip_empty M inj hab hba q1 q2 hv
    have e2 := ge_flip_empty2 M inj hab hba q1 q2 hv
    have := (ge_flipF_cases h).2.2
    rcases this with ⟨rfl, rfl, rfl⟩ | ⟨rfl, rfl, rfl⟩ | ⟨rfl, rfl, rfl⟩ | ⟨rfl, rfl, rfl⟩ | ⟨rfl, rfl, rfl⟩ | ⟨rfl, rfl, rfl⟩ | h3
    · exact e1
    · exact fun k => e1 ⟨k.2.2, k.1, k.2.1⟩
    · exact fun k => e1 ⟨k.2.1, k.2.2, k.1⟩
    · exact e2
    · exact fun k => e2 ⟨k.2.2, k.1, k.2.1⟩
    · exact fun k => e2 ⟨k.2.1, k.2.2, k.1⟩
    · exact M.empty h3.1 hv
  case full =>
    intro x hx
    obtain ⟨y, z, h⟩ := M.full hx
    by_cases k1 : x = a ∧ y = b
    · exact ⟨d, c, by rw [k1.1]; exact some' _ _ _ (by simp)⟩
    by_cases k2 : x = b ∧ y = a
    · exact ⟨c, d, by rw [k2.1]; exact some' _ _ _ (by simp)⟩
    obtain ⟨w, hw⟩ := ge_flip_keep M inj hab hba q1 q2 h k1 k2
    exact ⟨y, w, hw⟩
