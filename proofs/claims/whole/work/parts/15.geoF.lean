variable {n : Nat} {P : Nat → ge_Pt} {T : Nat → Nat → Nat → Prop} {L : Nat → Nat → Prop}

/-- A point between two others is a weighted mean of them. -/
theorem ge_Btw_param {a b v : ge_Pt} (h : ge_Btw a b v) :
    ∃ s t : Int, 0 ≤ s ∧ 0 ≤ t ∧ (s = 0 → v.x = b.x ∧ v.y = b.y) ∧ (t = 0 → v.x = a.x ∧ v.y = a.y) ∧
      (s + t) * v.x = s * a.x + t * b.x ∧ (s + t) * v.y = s * a.y + t * b.y := by
  obtain ⟨h0, h1, h2, h3, h4⟩ := h
  unfold ge_ori at h0
  rcases Int.le_total a.x b.x with hx | hx <;> rcases Int.le_total a.y b.y with hy | hy
  · refine ⟨(b.x - v.x) + (b.y - v.y), (v.x - a.x) + (v.y - a.y), by omega, by omega, by omega, by omega, ?_, ?_⟩ <;> grind
  · refine ⟨(b.x - v.x) + (v.y - b.y), (v.x - a.x) + (a.y - v.y), by omega, by omega, by omega, by omega, ?_, ?_⟩ <;> grind
  · refine ⟨(v.x - b.x) + (b.y - v.y), (a.x - v.x) + (v.y - a.y), by omega, by omega, by omega, by omega, ?_, ?_⟩ <;> grind
  · refine ⟨(v.x - b.x) + (v.y - b.y), (a.x - v.x) + (a.y - v.y), by omega, by omega, by omega, by omega, ?_, ?_⟩ <;> grind

theorem ge_ori_param {a b v p q : ge_Pt} {s t : Int} (hx : (s + t) * v.x = s * a.x + t * b.x)
    (hy : (s + t) * v.y = s * a.y + t * b.y) : (s + t) * ge_ori p q v = s * ge_ori p q a + t * ge_ori p q b := by
  unfold ge_ori; grind

/-- For a vertex v between c and d that is neither. -/
theorem ge_Btw_sides (inj : ge_Inj n P) {c d v : Nat} (hc : c < n) (hd : d < n) (hv : v < n) (h1 : v ≠ c) (h2 : v ≠ d)
    (h : ge_Btw (P c) (P d) (P v)) : ∃ s t : Int, 0 < s ∧ 0 < t ∧
      ∀ p q : ge_Pt, (s + t) * ge_ori p q (P v) = s * ge_ori p q (P c) + t * ge_ori p q (P d) := by
  obtain ⟨s, t, hs, ht, e1, e2, ex, ey⟩ := ge_Btw_param h
  refine ⟨s, t, ?_, ?_, fun p q => ge_ori_param ex ey⟩
  · apply Classical.byContradiction; intro hn
    have := e1 (by omega)
    exact h2 (inj v d hv hd this.1 this.2)
  · apply Classical.byContradiction; intro hn
    have := e2 (by omega)
    exact h1 (inj v c hv hc this.1 this.2)

theorem ge_flip_empty (M : ge_Mesh n P T) (inj : ge_Inj n P) {a b c d : Nat} (hab : T a b c) (hba : T b a d) (q1 : 0 < ge_ori (P a) (P d) (P c)) (q2 : 0 < ge_ori (P d) (P b) (P c)) {v : Nat} (hv : v < n) :
    ¬ (0 < ge_ori (P a) (P d) (P v) ∧ 0 < ge_ori (P d) (P c) (P v) ∧ 0 < ge_ori (P c) (P a) (P v)) := by
  rintro ⟨h1, h2, h3⟩
  have p1 := M.pos hab
  have p2 := M.pos hba
  have i1 : ge_ori (P a) (P d) (P c) * ge_ori (P b) (P c) (P v) =
      ge_ori (P d) (P c) (P v) * ge_ori (P a) (P b) (P c) + ge_ori (P c) (P a) (P v) * ge_ori (P d) (P b) (P c) := by
    unfold ge_ori; grind
  have i2 : ge_ori (P a) (P d) (P c) * ge_ori (P d) (P b) (P v) =
      ge_ori (P d) (P c) (P v) * ge_ori (P b) (P a) (P d) + ge_ori (P a) (P d) (P v) * ge_ori (P d) (P b) (P c) := by
    unfold ge_ori; grind
  have m1 := ge_mpp h2 p1
  have m2 := ge_mpp h3 q2
  have m3 := ge_mpp h2 p2
  have m4 := ge_mpp h1 q2
  have k1 := ge_pos_of_mul q1 (b := ge_ori (P b) (P c) (P v)) (by omega)
  have k2 := ge_pos_of_mul q1 (b := ge_ori (P d) (P b) (P v)) (by omega)
  rcases Int.lt_trichotomy (ge_ori (P a) (P b) (P v)) 0 with h | h | h
  · exact M.empty hba hv ⟨by have := ge_swp (P a) (P b) (P v); omega, h1, k2⟩
  · refine M.clear hab hv ?_ ?_ ?_
    · intro e; subst e; rw [ge_ori_aba] at h1; omega
    · intro e; subst e; rw [ge_ori_aba] at k1; omega
    · have e1 : ge_ori (P d) (P c) (P a) = ge_ori (P a) (P d) (P c) := by unfold ge_ori; grind
      have e2 : ge_ori (P d) (P c) (P b) = - ge_ori (P d) (P b) (P c) := by unfold ge_ori; grind
      have e3 : ge_ori (P a) (P d) (P c) = ge_ori (P a) (P d) (P v) + ge_ori (P d) (P c) (P v) + ge_ori (P c) (P a) (P v) := by
        unfold ge_ori; grind
      exact ge_btw_ori (p := P d) (q := P c) h (by omega) (by omega) (by omega)
  · exact M.empty hab hv ⟨h, k1, h3⟩

theorem ge_flip_clear (M : ge_Mesh n P T) (inj : ge_Inj n P) {a b c d : Nat} (hab : T a b c) (hba : T b a d) (q1 : 0 < ge_ori (P a) (P d) (P c)) (q2 : 0 < ge_ori (P d) (P b) (P c)) {v : Nat} (hv : v < n) (h1 : v ≠ c) (h2 : v ≠ d) : ¬ ge_Btw (P c) (P d) (P v) := by
  intro hb
  have hl := M.lt hab
  have hl2 := M.lt hba
  obtain ⟨s, t, hs, ht, hh⟩ := ge_Btw_sides inj hl.2.2 hl2.2.2 hv h1 h2 hb
  have st : 0 < s + t := by omega
  have k1 := hh (P b) (P c)
  have k2 := hh (P c) (P a)
  have k3 := hh (P a) (P d)
  have k4 := hh (P d) (P b)
  rw [ge_ori_abb] at k1
  rw [ge_ori_aba] at k2
  rw [ge_ori_abb] at k3
  rw [ge_ori_aba] at k4
  have e1 : ge_ori (P b) (P c) (P d) = ge_ori (P d) (P b) (P c) := by unfold ge_ori; grind
  have e2 : ge_ori (P c) (P a) (P d) = ge_ori (P a) (P d) (P c) := by unfold ge_ori; grind
  rw [e1] at k1
  rw [e2] at k2
  have m1 := ge_mpp ht q2
  have m2 := ge_mpp ht q1
  have m3 := ge_mpp hs q1
  have m4 := ge_mpp hs q2
  have r1 := ge_pos_of_mul st (b := ge_ori (P b) (P c) (P v)) (by omega)
  have r2 := ge_pos_of_mul st (b := ge_ori (P c) (P a) (P v)) (by omega)
  have r3 := ge_pos_of_mul st (b := ge_ori (P a) (P d) (P v)) (by omega)
  have r4 := ge_pos_of_mul st (b := ge_ori (P d) (P b) (P v)) (by omega)
  rcases Int.lt_trichotomy (ge_ori (P a) (P b) (P v)) 0 with h | h | h
  · exact M.empty hba hv ⟨by have := ge_swp (P a) (P b) (P v); omega, r3, r4⟩
  · refine M.clear hab hv ?_ ?_ ?_
    · intro e; subst e; rw [ge_ori_abb] at r2; omega
    · intro e; subst e; rw [ge_ori_aba] at r1; omega
    · have e1 : ge_ori (P d) (P c) (P a) = ge_ori (P a) (P d) (P c) := by unfold ge_ori; grind
      have e2 : ge_ori (P d) (P c) (P b) = - ge_ori (P d) (P b) (P c) := by unfold ge_ori; grind
      have e3 : ge_ori (P d) (P c) (P v) = - ge_ori (P c) (P d) (P v) := ge_swp _ _ _
      have e4 := hb.1
      exact ge_btw_ori (p := P d) (q := P c) h (by omega) (by omega) (by omega)
  · exact M.empty hab hv ⟨h, r1, r2⟩

theorem ge_flip_empty2 (M : ge_Mesh n P T) (inj : ge_Inj n P) {a b c d : Nat} (hab : T a b c) (hba : T b a d) (q1 : 0 < ge_ori (P a) (P d) (P c)) (q2 : 0 < ge_ori (P d) (P b) (P c)) {v : Nat} (hv : v < n) :
    ¬ (0 < ge_ori (P d) (P b) (P v) ∧ 0 < ge_ori (P b) (P c) (P v) ∧ 0 < ge_ori (P c) (P d) (P v)) := by
  have := ge_flip_empty M inj hba hab (by rw [ge_rot]; exact q2) (by rw [ge_rot2]; exact q1) hv
  intro h; exact this ⟨h.2.1, h.2.2, h.1⟩

theorem ge_flip_cross (M : ge_Mesh n P T) (inj : ge_Inj n P) {a b c d : Nat} (hab : T a b c) (hba : T b a d) (q1 : 0 < ge_ori (P a) (P d) (P c)) (q2 : 0 < ge_ori (P d) (P b) (P c)) {x y : Nat} (he : ge_Edge T x y) (hx : ge_Xs (P d) (P c) (P x) (P y)) : x = a ∧ y = b := by
  have lab := M.lt hab
  have lba := M.lt hba
  have lxy : x < n ∧ y < n := by
    obtain ⟨z, h | h⟩ := he
    · exact ⟨(M.lt h).1, (M.lt h).2.1⟩
    · exact ⟨(M.lt h).2.1, (M.lt h).1⟩
  obtain ⟨x1, x2, x3, x4⟩ := id hx
  have e1 : ge_ori (P d) (P c) (P a) = ge_ori (P a) (P d) (P c) := by unfold ge_ori; grind
  have e2 : ge_ori (P d) (P c) (P b) = - ge_ori (P d) (P b) (P c) := by unfold ge_ori; grind
  have nxb : x ≠ b := by intro e; subst e; omega
  have nya : y ≠ a := by intro e; subst e; omega
  have nyd : y ≠ d := by intro e; subst e; rw [ge_ori_aba] at x2; omega
  have nyc : y ≠ c := by intro e; subst e; rw [ge_ori_abb] at x2; omega
  have nxd : x ≠ d := by intro e; subst e; rw [ge_ori_aba] at x1; omega
  have nxc : x ≠ c := by intro e; subst e; rw [ge_ori_abb] at x1; omega
  have edb : ge_Edge T d b := ⟨a, Or.inl (M.rot (M.rot hba))⟩
  have ebc : ge_Edge T b c := ⟨a, Or.inl (M.rot hab)⟩
  have eca : ge_Edge T c a := ⟨b, Or.inl (M.rot (M.rot hab))⟩
  have ead : ge_Edge T a d := ⟨b, Or.inl (M.rot hba)⟩
  constructor
  · apply Classical.byContradiction; intro hne
    rcases ge_exit3 (p := P c) (q := P d) (s := P a) (ge_Xs_flip hx) (by omega)
      (fun hh => ge_flip_empty M inj hab hba q1 q2 lxy.1 ⟨hh.2.2, hh.1, hh.2.1⟩)
      (M.clearE eca lxy.1 nxc hne) (M.clearE ead lxy.1 hne nxd)
      (M.clearE he.symm lab.1 (Ne.symm nya) (Ne.symm hne)) with h | h
    · exact M.crossE eca he.symm (ge_Xs_Cr h)
    · exact M.crossE ead he.symm (ge_Xs_Cr h)
  · apply Classical.byContradiction; intro hne
    rcases ge_exit3 (p := P d) (q := P c) (s := P b) hx (by have := ge_swp (P d) (P c) (P b); omega)
      (fun hh => ge_flip_empty2 M inj hab hba q1 q2 lxy.2 ⟨hh.2.1, hh.2.2, hh.1⟩)
      (M.clearE edb lxy.2 nyd hne) (M.clearE ebc lxy.2 hne nyc)
      (M.clearE he lab.2.1 (Ne.symm nxb) (Ne.symm hne)) with h | h
    · exact M.crossE edb he (ge_Xs_Cr h)
    · exact M.crossE ebc he (ge_Xs_Cr h)
