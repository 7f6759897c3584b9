variable {n : Nat} {P : Nat → ge_Pt}

/-- Sides drawn without crossings. -/
def ge_Pre (n : Nat) (P : Nat → ge_Pt) (E : Nat → Nat → Prop) : Prop :=
  (∀ a b, E a b → a < n ∧ b < n) ∧
  (∀ a b, E a b → a ≠ b) ∧
  (∀ a b, E a b → E b a) ∧
  (∀ a b, E a b → ge_Clear n P a b) ∧
  (∀ a b c d, E a b → E c d → ¬ ge_Cr (P a) (P b) (P c) (P d))
theorem ge_Pre.lt {n : Nat} {P : Nat → ge_Pt} {E : Nat → Nat → Prop} (M : ge_Pre n P E) {a b : Nat} : E a b → a < n ∧ b < n := M.1 a b
theorem ge_Pre.ne {n : Nat} {P : Nat → ge_Pt} {E : Nat → Nat → Prop} (M : ge_Pre n P E) {a b : Nat} : E a b → a ≠ b := M.2.1 a b
theorem ge_Pre.symm {n : Nat} {P : Nat → ge_Pt} {E : Nat → Nat → Prop} (M : ge_Pre n P E) {a b : Nat} : E a b → E b a := M.2.2.1 a b
theorem ge_Pre.clear {n : Nat} {P : Nat → ge_Pt} {E : Nat → Nat → Prop} (M : ge_Pre n P E) {a b : Nat} : E a b → ge_Clear n P a b := M.2.2.2.1 a b
theorem ge_Pre.cross {n : Nat} {P : Nat → ge_Pt} {E : Nat → Nat → Prop} (M : ge_Pre n P E) {a b c d : Nat} : E a b → E c d → ¬ ge_Cr (P a) (P b) (P c) (P d) := M.2.2.2.2 a b c d
theorem ge_Pre.mk {n : Nat} {P : Nat → ge_Pt} {E : Nat → Nat → Prop}
    (lt : ∀ {a b : Nat}, E a b → a < n ∧ b < n)
    (ne : ∀ {a b : Nat}, E a b → a ≠ b)
    (symm : ∀ {a b : Nat}, E a b → E b a)
    (clear : ∀ {a b : Nat}, E a b → ge_Clear n P a b)
    (cross : ∀ {a b c d : Nat}, E a b → E c d → ¬ ge_Cr (P a) (P b) (P c) (P d))
    : ge_Pre n P E :=
  ⟨fun _ _ => lt, fun _ _ => ne, fun _ _ => symm, fun _ _ => clear, fun _ _ _ _ => cross⟩

theorem ge_cnt2_lt {p q : Nat → Nat → Prop} (h : ∀ a b, p a b → q a b) {a b : Nat} (ha : a < n) (hb : b < n)
    (hq : q a b) (hp : ¬ p a b) : ge_cnt2 n p + 1 ≤ ge_cnt2 n q := by
  have h1 : ge_sumN n (fun y => ge_ind (p a y)) + 1 ≤ ge_sumN n (fun y => ge_ind (q a y)) := by
    have := ge_sumN_le (k := n) (f := fun y => ge_ind (p a y) + (if y = b then 1 else 0)) (g := fun y => ge_ind (q a y)) (by
      intro y _
      split
      · rename_i e; subst e; rw [ge_ind_false hp, ge_ind_true hq]; omega
      · have := ge_ind_le (h a y); omega)
    rw [ge_sumN_add] at this
    have e := ge_sumN_one (k := n) (i := b) (f := fun _ => 0) (g := fun y => if y = b then 1 else (0 : Int)) hb (fun j _ hne => by simp [hne])
    rw [ge_sumN_const] at e
    simp only [if_true] at e
    omega
  have := ge_sumN_le (k := n) (f := fun x => (ge_sumN n fun y => ge_ind (p x y)) + (if x = a then 1 else 0))
    (g := fun x => ge_sumN n fun y => ge_ind (q x y)) (by
      intro x _
      split
      · rename_i e; subst e; exact h1
      · have := ge_sumN_le (k := n) (f := fun y => ge_ind (p x y)) (g := fun y => ge_ind (q x y)) (fun y _ => ge_ind_le (h x y)); omega)
  rw [ge_sumN_add] at this
  have e := ge_sumN_one (k := n) (i := a) (f := fun _ => 0) (g := fun y => if y = a then 1 else (0 : Int)) ha (fun j _ hne => by simp [hne])
  rw [ge_sumN_const] at e
  simp only [if_true] at e
  unfold ge_cnt2
  omega

theorem ge_cnt2_all (p : Nat → Nat → Prop) : ge_cnt2 n p ≤ n * (n * 1) := by
  unfold ge_cnt2
  rw [← ge_sumN_const n (n * 1)]
  apply ge_sumN_le
  intro a _
  rw [← ge_sumN_const n 1]
  exact ge_sumN_le fun b _ => (ge_ind_bnd _).2

def ge_addE (E : Nat → Nat → Prop) (a b x y : Nat) : Prop := E x y ∨ (x = a ∧ y = b) ∨ (x = b ∧ y = a)

theorem ge_Cr_self (p q : ge_Pt) : ¬ ge_Cr p q p q ∧ ¬ ge_Cr p q q p ∧ ¬ ge_Cr q p p q ∧ ¬ ge_Cr q p q p := by
  unfold ge_Cr
  refine ⟨?_, ?_, ?_, ?_⟩ <;> (intro h; simp only [ge_ori_aba, ge_ori_abb] at h; omega)

theorem ge_Pre.add {E : Nat → Nat → Prop} (h : ge_Pre n P E) {a b : Nat} (ha : a < n) (hb : b < n) (hab : a ≠ b)
    (hc : ge_Clear n P a b) (hx : ∀ c d, E c d → ¬ ge_Cr (P a) (P b) (P c) (P d)) : ge_Pre n P (ge_addE E a b) := by
  refine ge_Pre.mk ?lt ?ne ?symm ?clear ?cross
  case lt =>
    rintro x y (k | ⟨rfl, rfl⟩ | ⟨rfl, rfl⟩)
    · exact h.lt k
    · exact ⟨ha, hb⟩
    · exact ⟨hb, ha⟩
  case ne =>
    rintro x y (k | ⟨rfl, rfl⟩ | ⟨rfl, rfl⟩)
    · exact h.ne k
    · exact hab
    · exact hab.symm
  case symm =>
    rintro x y (k | ⟨rfl, rfl⟩ | ⟨rfl, rfl⟩)
    · exact Or.inl (h.symm k)
    · exact Or.inr (Or.inr ⟨rfl, rfl⟩)
    · exact Or.inr (Or.inl ⟨rfl, rfl⟩)
  case clear =>
    rintro x y (k | ⟨rfl, rfl⟩ | ⟨rfl, rfl⟩)
    · exact h.clear k
    · exact hc
    · exact hc.symm
  case cross =>
    have cs := ge_Cr_self (P a) (P b)
    rintro x y z w (k | ⟨rfl, rfl⟩ | ⟨rfl, rfl⟩) (l | ⟨rfl, rfl⟩ | ⟨rfl, rfl⟩)
    · exact h.cross k l
    · exact fun c => hx _ _ k (ge_Cr_swap c)
    · exact fun c => hx _ _ k (ge_Cr_swap (ge_Cr_comm2 c))
    · exact hx _ _ l
    · exact cs.1
    · exact cs.2.1
    · exact fun c => hx _ _ l (ge_Cr_comm c)
    · exact cs.2.2.1
    · exact cs.2.2.2

theorem ge_Pre.toPlan {E : Nat → Nat → Prop} (h : ge_Pre n P E)
    (hm : ∀ a b, a < n → b < n → a ≠ b → ge_Clear n P a b → (∀ c d, E c d → ¬ ge_Cr (P a) (P b) (P c) (P d)) → E a b) :
    ge_Plan n P E :=
  ge_Plan.mk h.lt h.ne h.symm h.clear h.cross (fun h1 h2 h3 h4 h5 => hm _ _ h1 h2 h3 h4 h5)

theorem ge_Pre.extend {E : Nat → Nat → Prop} (h : ge_Pre n P E) : ∃ E', ge_Plan n P E' ∧ ∀ a b, E a b → E' a b := by
  have key : ∀ (k : Nat) (E : Nat → Nat → Prop), ge_Pre n P E → ((n : Int) * (n * 1) - ge_cnt2 n E ≤ k) →
      ∃ E', ge_Plan n P E' ∧ ∀ a b, E a b → E' a b := by
    intro k
    induction k with
    | zero =>
      intro E h hk
      refine ⟨E, ge_Pre.toPlan h ?_, fun _ _ h => h⟩
      intro a b ha hb hab hc hx
      apply Classical.byContradiction; intro hE
      have := ge_cnt2_lt (n := n) (p := E) (q := ge_addE E a b) (fun x y h => Or.inl h) ha hb (Or.inr (Or.inl ⟨rfl, rfl⟩)) hE
      have := ge_cnt2_all (n := n) (ge_addE E a b)
      omega
    | succ k ih =>
      intro E h hk
      by_cases hm : ∀ a b, a < n → b < n → a ≠ b → ge_Clear n P a b → (∀ c d, E c d → ¬ ge_Cr (P a) (P b) (P c) (P d)) → E a b
      · exact ⟨E, ge_Pre.toPlan h hm, fun _ _ h => h⟩
      · have : ∃ a b, a < n ∧ b < n ∧ a ≠ b ∧ ge_Clear n P a b ∧ (∀ c d, E c d → ¬ ge_Cr (P a) (P b) (P c) (P d)) ∧ ¬ E a b := by
          apply Classical.byContradiction; intro hn
          apply hm
          intro a b ha hb hab hc hx
          apply Classical.byContradiction; intro hE
          exact hn ⟨a, b, ha, hb, hab, hc, hx, hE⟩
        obtain ⟨a, b, ha, hb, hab, hc, hx, hE⟩ := this
        have lt := ge_cnt2_lt (n := n) (p := E) (q := ge_addE E a b) (fun x y h => Or.inl h) ha hb (Or.inr (Or.inl ⟨rfl, rfl⟩)) hE
        obtain ⟨E', h1, h2⟩ := ih (ge_addE E a b) (h.add ha hb hab hc hx) (by omega)
        exact ⟨E', h1, fun x y k => h2 x y (Or.inl k)⟩
  exact key ((n : Int) * (n * 1) - ge_cnt2 n E).toNat E h (by omega)

theorem ge_line_count {E : Nat → Nat → Prop} (h : ge_Pre n P E) {K : Int}
    (hK : ∀ i j, i < n → j < n → ge_el K (P i) = ge_el K (P j) → i = j)
    (hl : ¬ ge_Spread n P) : ge_cnt2 n E ≤ 2 * n := by
  have col : ∀ a b c, a < n → b < n → c < n → ge_ori (P a) (P b) (P c) = 0 := by
    intro a b c ha hb hc
    apply Classical.byContradiction; intro hne
    exact hl ⟨a, b, c, ha, hb, hc, hne⟩
  have t2 : ge_cnt2 n E = ge_cnt2 n (fun v b => E v b ∧ ge_el K (P v) < ge_el K (P b)) +
      ge_cnt2 n (fun b v => E b v ∧ ge_el K (P v) < ge_el K (P b)) := by
    unfold ge_cnt2
    rw [← ge_sumN_add]
    apply ge_sumN_congr; intro a _
    rw [← ge_sumN_add]
    apply ge_sumN_congr; intro b _
    rw [← ge_ind_or (by omega)]
    apply ge_ind_congr
    constructor
    · intro k
      have := h.lt k
      have hne := h.ne k
      have : ge_el K (P a) ≠ ge_el K (P b) := fun e => hne (hK a b this.1 this.2 e)
      rcases Int.lt_or_gt_of_ne this with q | q
      · exact Or.inl ⟨k, q⟩
      · exact Or.inr ⟨k, q⟩
    · rintro (h | h) <;> exact h.1
  have u : ge_cnt2 n (fun v b => E v b ∧ ge_el K (P v) < ge_el K (P b)) ≤ n * 1 := by
    rw [← ge_sumN_const n 1]
    apply ge_sumN_le
    intro v _
    have := ge_sumN_one_le (k := n) (p := fun b => E v b ∧ ge_el K (P v) < ge_el K (P b)) (by
      rintro b b' hb hb' ⟨k, l⟩ ⟨k', l'⟩
      exact ge_ray_el (K := K) hb hb' (h.ne k) (h.ne k') (h.clear k) (h.clear k') (col _ _ _ (h.lt k).1 hb hb') l l')
    have := (ge_ind_bnd (∃ i, i < n ∧ E v i ∧ ge_el K (P v) < ge_el K (P i))).2
    show ge_sumN n (fun b => ge_ind (E v b ∧ ge_el K (P v) < ge_el K (P b))) ≤ 1
    omega
  have d : ge_cnt2 n (fun b v => E b v ∧ ge_el K (P v) < ge_el K (P b)) ≤ n * 1 := by
    have e : ge_cnt2 n (fun b v => E b v ∧ ge_el K (P v) < ge_el K (P b)) = ge_cnt2 n (fun v b => E v b ∧ ge_el K (P v) < ge_el K (P b)) := by
      rw [← ge_cnt2_swap]
      unfold ge_cnt2
      apply ge_sumN_congr; intro a _
      apply ge_sumN_congr; intro b _
      exact ge_ind_congr ⟨fun k => ⟨h.symm k.1, k.2⟩, fun k => ⟨h.symm k.1, k.2⟩⟩
    omega
  omega

theorem ge_Pre.count {E : Nat → Nat → Prop} (h : ge_Pre n P E) (inj : ge_Inj n P) (h12 : n ≤ 12) {K : Int}
    (hK : ∀ i j, i < n → j < n → ge_el K (P i) = ge_el K (P j) → i = j) : ge_cnt2 n E ≤ 60 := by
  by_cases sp : ge_Spread n P
  · obtain ⟨E', hp, hs⟩ := h.extend
    have := ge_edges_le hp inj hK sp
    have := ge_cnt2_le (n := n) (p := E) (q := E') (fun a b _ _ k => hs a b k)
    omega
  · have := ge_line_count h hK sp
    omega

theorem ge_el_inj {X Y : Nat → Int} (inj : ge_InjXY n X Y) (hy : ∀ i, i < n → -1000000 ≤ Y i ∧ Y i ≤ 1000000) :
    ∀ i j, i < n → j < n → ge_el 3000000 (ge_PP X Y i) = ge_el 3000000 (ge_PP X Y j) → i = j := by
  intro i j hi hj h
  have h1 := hy i hi; have h2 := hy j hj
  simp only [ge_el, ge_PP, ge_lift, ge_mkp_x, ge_mkp_y] at h
  exact inj i j hi hj (by omega) (by omega)
