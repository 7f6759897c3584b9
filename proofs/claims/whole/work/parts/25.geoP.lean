theorem ge_ind_or {p q : Prop} (h : ¬ (p ∧ q)) : ge_ind (p ∨ q) = ge_ind p + ge_ind q := by
  by_cases hp : p <;> by_cases hq : q
  · exact absurd ⟨hp, hq⟩ h
  · rw [ge_ind_true (Or.inl hp), ge_ind_true hp, ge_ind_false hq]; rfl
  · rw [ge_ind_true (Or.inr hq), ge_ind_false hp, ge_ind_true hq]; rfl
  · rw [ge_ind_false (by simp [hp, hq]), ge_ind_false hp, ge_ind_false hq]; rfl

theorem ge_two_one_le {n : Nat} {p : Nat → Nat → Prop} {q : Nat → Prop} {r : Prop}
    (hp : ∀ a c a' c', p a c → p a' c' → a = a' ∧ c = c') (hq : ∀ b b', q b → q b' → b = b')
    (hpq : ∀ a c b, p a c → q b → False) (hpr : ∀ a c, p a c → r) (hqr : ∀ b, q b → r) :
    ge_sumN n (fun a => ge_sumN n fun c => ge_ind (p a c)) + ge_sumN n (fun b => ge_ind (q b)) ≤ ge_ind r := by
  have h1 : ge_sumN n (fun a => ge_sumN n fun c => ge_ind (p a c)) ≤ ge_sumN n (fun a => ge_ind (∃ c, c < n ∧ p a c)) :=
    ge_sumN_le fun a _ => ge_sumN_one_le fun c c' _ _ h h' => (hp a c a c' h h').2
  have h2 : ge_sumN n (fun a => ge_ind (∃ c, c < n ∧ p a c)) ≤ ge_ind (∃ a, a < n ∧ ∃ c, c < n ∧ p a c) :=
    ge_sumN_one_le fun a a' _ _ ⟨c, _, h⟩ ⟨c', _, h'⟩ => (hp a c a' c' h h').1
  have h3 : ge_sumN n (fun b => ge_ind (q b)) ≤ ge_ind (∃ b, b < n ∧ q b) := ge_sumN_one_le fun b b' _ _ h h' => hq b b' h h'
  have h4 : ge_ind (∃ a, a < n ∧ ∃ c, c < n ∧ p a c) + ge_ind (∃ b, b < n ∧ q b) ≤ ge_ind r := by
    rw [← ge_ind_or (by rintro ⟨⟨a, _, c, _, h⟩, b, _, k⟩; exact hpq a c b h k)]
    apply ge_ind_le
    rintro (⟨a, _, c, _, h⟩ | ⟨b, _, k⟩)
    · exact hpr a c h
    · exact hqr b k
  omega

theorem ge_row_max {n : Nat} {P : Nat → ge_Pt} {E : Nat → Nat → Prop} (Pl : ge_Plan n P E) (inj : ge_Inj n P) {K : Int} (hK : ∀ i j, i < n → j < n → ge_el K (P i) = ge_el K (P j) → i = j) (hn : 0 < n) : ∃ m, m < n ∧ ∀ i, i < n → ge_el K (P i) ≤ ge_el K (P m) := by
  obtain ⟨m, hm, h⟩ := ge_fin_max (List.range n) (fun i j => ge_el K (P i) < ge_el K (P j)) (fun i h => by omega)
    (fun i j k h h' => by omega) 0 (by simpa using hn)
  simp only [List.mem_range] at hm h
  exact ⟨m, hm, fun i hi => by have := h i hi; omega⟩

theorem ge_row_min {n : Nat} {P : Nat → ge_Pt} {E : Nat → Nat → Prop} (Pl : ge_Plan n P E) (inj : ge_Inj n P) {K : Int} (hK : ∀ i j, i < n → j < n → ge_el K (P i) = ge_el K (P j) → i = j) (hn : 0 < n) : ∃ m, m < n ∧ ∀ i, i < n → ge_el K (P m) ≤ ge_el K (P i) := by
  obtain ⟨m, hm, h⟩ := ge_fin_max (List.range n) (fun i j => ge_el K (P j) < ge_el K (P i)) (fun i h => by omega)
    (fun i j k h h' => by omega) 0 (by simpa using hn)
  simp only [List.mem_range] at hm h
  exact ⟨m, hm, fun i hi => by have := h i hi; omega⟩

def ge_MidT (n : Nat) (P : Nat → ge_Pt) (E : Nat → Nat → Prop) (K : Int) (a v c : Nat) : Prop :=
  ge_TE n P E a v c ∧ ((ge_el K (P a) < ge_el K (P v) ∧ ge_el K (P v) < ge_el K (P c)) ∨ (ge_el K (P c) < ge_el K (P v) ∧ ge_el K (P v) < ge_el K (P a)))

theorem ge_slots {n : Nat} {P : Nat → ge_Pt} {E : Nat → Nat → Prop} (Pl : ge_Plan n P E) (inj : ge_Inj n P) {K : Int} (hK : ∀ i j, i < n → j < n → ge_el K (P i) = ge_el K (P j) → i = j) (hn : 0 < n) : ge_cnt3 n (ge_MidT n P E K) + ge_cnt2 n (ge_Hull n P E) ≤ 2 * (n - 1) := by
  have t1 : ge_cnt3 n (ge_MidT n P E K) =
      ge_cnt3 n (fun a v c => ge_TE n P E a v c ∧ ge_el K (P a) < ge_el K (P v) ∧ ge_el K (P v) < ge_el K (P c)) +
      ge_cnt3 n (fun a v c => ge_TE n P E a v c ∧ ge_el K (P c) < ge_el K (P v) ∧ ge_el K (P v) < ge_el K (P a)) := by
    unfold ge_cnt3
    rw [← ge_sumN_add]
    apply ge_sumN_congr; intro a _
    rw [← ge_sumN_add]
    apply ge_sumN_congr; intro v _
    rw [← ge_sumN_add]
    apply ge_sumN_congr; intro c _
    rw [← ge_ind_or (by omega)]
    apply ge_ind_congr
    unfold ge_MidT
    constructor
    · rintro ⟨h, h1 | h1⟩
      · exact Or.inl ⟨h, h1⟩
      · exact Or.inr ⟨h, h1⟩
    · rintro (⟨h, h1⟩ | ⟨h, h1⟩)
      · exact ⟨h, Or.inl h1⟩
      · exact ⟨h, Or.inr h1⟩
  have t2 : ge_cnt2 n (ge_Hull n P E) = ge_cnt2 n (fun v b => ge_Hull n P E v b ∧ ge_el K (P v) < ge_el K (P b)) +
      ge_cnt2 n (fun b v => ge_Hull n P E b v ∧ ge_el K (P v) < ge_el K (P b)) := by
    unfold ge_cnt2
    rw [← ge_sumN_add]
    apply ge_sumN_congr; intro a _
    rw [← ge_sumN_add]
    apply ge_sumN_congr; intro b _
    rw [← ge_ind_or (by omega)]
    apply ge_ind_congr
    constructor
    · intro h
      have := Pl.lt h.1
      have hne := Pl.ne h.1
      have : ge_el K (P a) ≠ ge_el K (P b) := fun e => hne (hK a b this.1 this.2 e)
      rcases Int.lt_or_gt_of_ne this with k | k
      · exact Or.inl ⟨h, k⟩
      · exact Or.inr ⟨h, k⟩
    · rintro (h | h) <;> exact h.1
  have u : ge_cnt3 n (fun a v c => ge_TE n P E a v c ∧ ge_el K (P a) < ge_el K (P v) ∧ ge_el K (P v) < ge_el K (P c)) +
      ge_cnt2 n (fun v b => ge_Hull n P E v b ∧ ge_el K (P v) < ge_el K (P b)) ≤
      ge_sumN n (fun v => ge_ind (∃ w, w < n ∧ ge_el K (P v) < ge_el K (P w))) := by
    unfold ge_cnt3 ge_cnt2
    rw [ge_sumN_swap, ← ge_sumN_add]
    apply ge_sumN_le
    intro v _
    apply ge_two_one_le
    · rintro a c a' c' ⟨h, l1, l2⟩ ⟨h', l1', l2'⟩
      exact ge_up_uni Pl inj h h' l1 l2 l1' l2'
    · rintro b b' ⟨h, l⟩ ⟨h', l'⟩
      exact ge_hull_up_uni Pl inj h h' l l'
    · rintro a c b ⟨h, l1, l2⟩ ⟨h', l'⟩
      exact ge_up_hull Pl inj h l1 l2 h' l'
    · rintro a c ⟨h, l1, l2⟩
      exact ⟨c, (Pl.lt h.2.1).2, l2⟩
    · rintro b ⟨h, l⟩
      exact ⟨b, (Pl.lt h.1).2, l⟩
  have d : ge_cnt3 n (fun a v c => ge_TE n P E a v c ∧ ge_el K (P c) < ge_el K (P v) ∧ ge_el K (P v) < ge_el K (P a)) +
      ge_cnt2 n (fun b v => ge_Hull n P E b v ∧ ge_el K (P v) < ge_el K (P b)) ≤
      ge_sumN n (fun v => ge_ind (∃ w, w < n ∧ ge_el K (P v) < ge_el K (P w))) := by
    rw [← ge_cnt2_swap]
    unfold ge_cnt3 ge_cnt2
    rw [ge_sumN_swap, ← ge_sumN_add]
    apply ge_sumN_le
    intro v _
    apply ge_two_one_le
    · rintro a c a' c' ⟨h, l1, l2⟩ ⟨h', l1', l2'⟩
      exact ge_down_uni Pl inj h h' l1 l2 l1' l2'
    · rintro b b' ⟨h, l⟩ ⟨h', l'⟩
      exact ge_hull_down_uni Pl inj h h' l l'
    · rintro a c b ⟨h, l1, l2⟩ ⟨h', l'⟩
      exact ge_down_hull Pl inj h l1 l2 h' l'
    · rintro a c ⟨h, l1, l2⟩
      exact ⟨a, (Pl.lt h.1).1, l2⟩
    · rintro b ⟨h, l⟩
      exact ⟨b, (Pl.lt h.1).1, l⟩
  have j : ge_sumN n (fun v => ge_ind (∃ w, w < n ∧ ge_el K (P v) < ge_el K (P w))) ≤ n - 1 := by
    obtain ⟨m, hm, hmax⟩ := ge_row_max Pl inj hK hn
    have := ge_sumN_le (k := n) (f := fun v => ge_ind (∃ w, w < n ∧ ge_el K (P v) < ge_el K (P w))) (g := fun v => if v = m then 0 else 1) (by
      intro v _
      split
      · rename_i e; subst e
        rw [ge_ind_false]
        · exact Int.le_refl _
        · rintro ⟨w, hw, h⟩; have := hmax w hw; omega
      · exact (ge_ind_bnd _).2)
    have e := ge_sumN_one (k := n) (i := m) (f := fun _ => 1) (g := fun v => if v = m then 0 else (1 : Int)) hm (fun j _ hne => by simp [hne])
    rw [ge_sumN_const] at e
    simp only [if_true] at e
    omega
  omega

theorem ge_mid_three {n : Nat} {P : Nat → ge_Pt} {E : Nat → Nat → Prop} (Pl : ge_Plan n P E) (inj : ge_Inj n P) {K : Int} (hK : ∀ i j, i < n → j < n → ge_el K (P i) = ge_el K (P j) → i = j) : ge_cnt3 n (ge_TE n P E) = 3 * ge_cnt3 n (ge_MidT n P E K) := by
  have split3 : ge_cnt3 n (ge_TE n P E) = ge_cnt3 n (ge_MidT n P E K) + ge_cnt3 n (fun a b c => ge_MidT n P E K b c a)
      + ge_cnt3 n (fun a b c => ge_MidT n P E K c a b) := by
    unfold ge_cnt3
    rw [← ge_sumN_add, ← ge_sumN_add]
    apply ge_sumN_congr; intro a _
    rw [← ge_sumN_add, ← ge_sumN_add]
    apply ge_sumN_congr; intro b _
    rw [← ge_sumN_add, ← ge_sumN_add]
    apply ge_sumN_congr; intro c _
    rw [← ge_ind_or (by unfold ge_MidT; omega), ← ge_ind_or (by unfold ge_MidT; omega)]
    apply ge_ind_congr
    unfold ge_MidT
    constructor
    · intro h
      have h2 := ge_TE_rot Pl inj h
      have h3 := ge_TE_rot Pl inj h2
      have l1 := Pl.lt h.1; have l2 := Pl.lt h.2.1
      have n1 := Pl.ne h.1; have n2 := Pl.ne h.2.1; have n3 := Pl.ne h.2.2.1
      have k1 : ge_el K (P a) ≠ ge_el K (P b) := fun e => n1 (hK a b l1.1 l1.2 e)
      have k2 : ge_el K (P b) ≠ ge_el K (P c) := fun e => n2 (hK b c l2.1 l2.2 e)
      have k3 : ge_el K (P c) ≠ ge_el K (P a) := fun e => n3 (hK c a l2.2 l1.1 e)
      by_cases m1 : (ge_el K (P a) < ge_el K (P b) ∧ ge_el K (P b) < ge_el K (P c)) ∨ (ge_el K (P c) < ge_el K (P b) ∧ ge_el K (P b) < ge_el K (P a))
      · exact Or.inl (Or.inl ⟨h, m1⟩)
      by_cases m2 : (ge_el K (P b) < ge_el K (P c) ∧ ge_el K (P c) < ge_el K (P a)) ∨ (ge_el K (P a) < ge_el K (P c) ∧ ge_el K (P c) < ge_el K (P b))
      · exact Or.inl (Or.inr ⟨h2, m2⟩)
      · exact Or.inr ⟨h3, by omega⟩
    · rintro ((h | h) | h)
      · exact h.1
      · exact ge_TE_rot Pl inj (ge_TE_rot Pl inj h.1)
      · exact ge_TE_rot Pl inj h.1
  have r1 := ge_cnt3_rot n (ge_MidT n P E K)
  have r2 := ge_cnt3_rot n (fun a b c => ge_MidT n P E K b c a)
  rw [split3, r1]
  have r3 : ge_cnt3 n (fun a b c => ge_MidT n P E K c a b) = ge_cnt3 n (ge_MidT n P E K) := by rw [← r1]; exact r2
  rw [r3]
  omega

theorem ge_edges_count {n : Nat} {P : Nat → ge_Pt} {E : Nat → Nat → Prop} (Pl : ge_Plan n P E) (inj : ge_Inj n P) {K : Int} (hK : ∀ i j, i < n → j < n → ge_el K (P i) = ge_el K (P j) → i = j) : ge_cnt2 n E = ge_cnt3 n (ge_TE n P E) + ge_cnt2 n (ge_Hull n P E) := by
  unfold ge_cnt2 ge_cnt3
  rw [← ge_sumN_add]
  apply ge_sumN_congr; intro a _
  rw [← ge_sumN_add]
  apply ge_sumN_congr; intro b _
  have le : ge_sumN n (fun c => ge_ind (ge_TE n P E a b c)) ≤ ge_ind (∃ c, c < n ∧ ge_TE n P E a b c) :=
    ge_sumN_one_le fun c c' _ _ h h' => ge_TE_uni Pl inj h h'
  by_cases hE : E a b
  · rw [ge_ind_true hE]
    by_cases hT : ∃ c, ge_TE n P E a b c
    · obtain ⟨c, hc⟩ := hT
      rw [ge_ind_false (p := ge_Hull n P E a b) (fun h => h.2 c hc)]
      have := ge_sumN_ge_one (k := n) (i := c) (p := fun c => ge_TE n P E a b c) (Pl.lt hc.2.1).2 hc
      have := (ge_ind_bnd (∃ c, c < n ∧ ge_TE n P E a b c)).2
      omega
    · rw [ge_ind_true (p := ge_Hull n P E a b) ⟨hE, fun c hc => hT ⟨c, hc⟩⟩, ge_sumN_zero]
      · rfl
      · intro c _; exact ge_ind_false (fun hc => hT ⟨c, hc⟩)
  · rw [ge_ind_false hE, ge_ind_false (p := ge_Hull n P E a b) (fun h => hE h.1), ge_sumN_zero]
    · rfl
    · intro c _; exact ge_ind_false (fun hc => hE hc.1)
