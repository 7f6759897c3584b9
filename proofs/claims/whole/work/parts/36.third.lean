/-! the third corner over a side: how it is sought -/
def ec_can (n : Nat) (P : Nat → ge_Pt) (L : Nat → Nat → Prop) (a b c : Nat) : Prop :=
  0 < ge_ori (P a) (P b) (P c) ∧
  (∀ v, v < n → v ≠ a → v ≠ b → v ≠ c → ¬ (0 ≤ ge_ori (P a) (P b) (P v) ∧ 0 ≤ ge_ori (P b) (P c) (P v) ∧ 0 ≤ ge_ori (P c) (P a) (P v))) ∧
  ∀ x y, L x y → ¬ ge_Cr (P b) (P c) (P x) (P y) ∧ ¬ ge_Cr (P c) (P a) (P x) (P y)
def ec_win (n : Nat) (P : Nat → ge_Pt) (L : Nat → Nat → Prop) (a b c : Nat) : Prop :=
  c < n ∧ ec_can n P L a b c ∧ ∀ d, d < n → ec_can n P L a b d → d ≠ c → ge_Dd (P a) (P b) (P c) (P d) < 0
section
variable {n : Nat} {P : Nat → ge_Pt} {T : Nat → Nat → Nat → Prop} {L : Nat → Nat → Prop}
theorem ec_win_mesh (M : ge_Mesh n P T) (good : ge_Good P T L) (hl : ∀ a b, L a b → ge_Edge T a b) {a b c : Nat} (h : T a b c) : ec_win n P L a b c := by
  have l := M.lt h
  refine ⟨l.2.2, ⟨M.pos h, fun v hv h1 h2 h3 q => ge_own M h hv h1 h2 h3 q, fun x y q => ⟨?_, ?_⟩⟩, fun d hd cd ne => ?_⟩
  · exact fun k => M.crossE ⟨a, Or.inl (M.rot h)⟩ (hl x y q) k
  · exact fun k => M.crossE ⟨b, Or.inl (M.rot (M.rot h))⟩ (hl x y q) k
  · refine ge_winner M good h hd ne cd.1 cd.2.1 (fun p q k z => (cd.2.2 p q k).1 (ge_Cr_swap z)) (fun p q k z => (cd.2.2 p q k).2 (ge_Cr_comm (ge_Cr_swap z)))
theorem ec_none_mesh (M : ge_Mesh n P T) {a b c : Nat} (h : T b a c) (hn : ∀ d, ¬ T a b d) {d : Nat} (hd : d < n) : ¬ ec_can n P L a b d := by
  intro q
  obtain ⟨e, he⟩ := M.ext h hd q.1
  exact hn e he
end
section
variable {n : Nat} {X Y : Nat → Int} {L : Nat → Nat → Prop} {a b : Nat}
def ec_I1 (n : Nat) (X Y : Nat → Int) (L : Nat → Nat → Prop) (a b i : Nat) (o : Option Nat) : Prop :=
  (o = none → ∀ d, d < i → ¬ ec_can n (ge_PP X Y) L a b d) ∧
  ∀ β, o = some β → β < i ∧ ec_can n (ge_PP X Y) L a b β ∧ ∀ c, ec_win n (ge_PP X Y) L a b c → c < i → ge_circ X Y a b β c = 0
theorem ec_circ_same (c : Nat) : ge_circ X Y a b c c = 0 := by unfold ge_circ; exact ge_Dd_last _ _ _
theorem ec_I1_0 : ec_I1 n X Y L a b 0 none := ⟨fun _ d h => by omega, fun β h => by cases h⟩
theorem ec_I1_no {i : Nat} {o : Option Nat} (h : ec_I1 n X Y L a b i o) (hc : ¬ ec_can n (ge_PP X Y) L a b i) : ec_I1 n X Y L a b (i + 1) o := by
  refine ⟨fun e d hd => ?_, fun β e => ?_⟩
  · by_cases q : d = i
    · subst q; exact hc
    · exact h.1 e d (by omega)
  · have := h.2 β e
    refine ⟨by omega, this.2.1, fun c w hci => ?_⟩
    by_cases q : c = i
    · subst q; exact absurd w.2.1 hc
    · exact this.2.2 c w (by omega)
theorem ec_I1_first {i : Nat} (h : ec_I1 n X Y L a b i none) (hc : ec_can n (ge_PP X Y) L a b i) : ec_I1 n X Y L a b (i + 1) (some i) := by
  refine ⟨fun e => (by cases e), fun β e => ?_⟩
  cases e
  refine ⟨by omega, hc, fun c w hci => ?_⟩
  by_cases q : c = i
  · subst q; exact ec_circ_same _
  · exact absurd w.2.1 (h.1 rfl c (by omega))
theorem ec_win_circ (inj : ge_InjXY n X Y) (h12 : n ≤ 12) (hx : ∀ i, i < n → -1000000 ≤ X i ∧ X i ≤ 1000000) (hy : ∀ i, i < n → -1000000 ≤ Y i ∧ Y i ≤ 1000000) (ha : a < n) (hb : b < n)
    {c d : Nat} (w : ec_win n (ge_PP X Y) L a b c) (hd : d < n) (cd : ec_can n (ge_PP X Y) L a b d) : ge_circ X Y a b c d ≤ 0 := by
  by_cases e : d = c
  · subst e; rw [ec_circ_same]; exact Int.le_refl _
  · exact (ge_won inj h12 hx hy ha hb w.1 hd (Ne.symm e) w.2.1.1 cd.1 (w.2.2 d hd cd e)).1
theorem ec_I1_take (inj : ge_InjXY n X Y) (h12 : n ≤ 12) (hx : ∀ i, i < n → -1000000 ≤ X i ∧ X i ≤ 1000000) (hy : ∀ i, i < n → -1000000 ≤ Y i ∧ Y i ≤ 1000000) (ha : a < n) (hb : b < n)
    {i β : Nat} (hi : i < n) (h : ec_I1 n X Y L a b i (some β)) (hc : ec_can n (ge_PP X Y) L a b i) (hp : 0 < ge_circ X Y a b β i) : ec_I1 n X Y L a b (i + 1) (some i) := by
  refine ⟨fun e => (by cases e), fun β' e => ?_⟩
  cases e
  refine ⟨by omega, hc, fun c w hci => ?_⟩
  by_cases q : c = i
  · subst q; exact ec_circ_same _
  · exfalso
    have g := h.2 β rfl
    have t := (ge_tied (X := X) (Y := Y) (e := i) w.2.1.1 g.2.1.1 (g.2.2 c w (by omega))).1 (ec_win_circ inj h12 hx hy ha hb w hi hc)
    omega
theorem ec_I1_keep (inj : ge_InjXY n X Y) (h12 : n ≤ 12) (hx : ∀ i, i < n → -1000000 ≤ X i ∧ X i ≤ 1000000) (hy : ∀ i, i < n → -1000000 ≤ Y i ∧ Y i ≤ 1000000) (ha : a < n) (hb : b < n)
    {i β : Nat} (hi : i < n) (h : ec_I1 n X Y L a b i (some β)) (hp : ¬ 0 < ge_circ X Y a b β i) : ec_I1 n X Y L a b (i + 1) (some β) := by
  refine ⟨fun e => (by cases e), fun β' e => ?_⟩
  cases e
  have g := h.2 β rfl
  refine ⟨by omega, g.2.1, fun c w hci => ?_⟩
  by_cases q : c = i
  · subst q
    have := ec_win_circ inj h12 hx hy ha hb w (show β < n by omega) g.2.1
    have := ge_circ_swap (X := X) (Y := Y) a b β c
    omega
  · exact g.2.2 c w (by omega)
/-- the least of a, b and those on the circle -/
def ec_I2 (n : Nat) (X Y : Nat → Int) (L : Nat → Nat → Prop) (a b β i m : Nat) : Prop :=
  (m = a ∨ m = b ∨ (m < n ∧ ec_can n (ge_PP X Y) L a b m ∧ ge_circ X Y a b β m = 0)) ∧ m ≤ a ∧ m ≤ b ∧
  ∀ d, d < i → ec_can n (ge_PP X Y) L a b d → ge_circ X Y a b β d = 0 → m ≤ d
theorem ec_I2_0 {β : Nat} : ec_I2 n X Y L a b β 0 (min a b) := by
  refine ⟨by omega, by omega, by omega, fun d h => by omega⟩
theorem ec_I2_take {β i m : Nat} (h : ec_I2 n X Y L a b β i m) (hi : i < n) (hm : i < m) (hc : ec_can n (ge_PP X Y) L a b i) (h0 : ge_circ X Y a b β i = 0) : ec_I2 n X Y L a b β (i + 1) i := by
  obtain ⟨h1, h2, h3, h4⟩ := h
  refine ⟨Or.inr (Or.inr ⟨hi, hc, h0⟩), by omega, by omega, fun d hd _ _ => ?_⟩
  by_cases e : d = i
  · omega
  · have := h4 d (by omega) ‹_› ‹_›; omega
theorem ec_I2_keep {β i m : Nat} (h : ec_I2 n X Y L a b β i m) (hk : ¬ (i < m ∧ ec_can n (ge_PP X Y) L a b i ∧ ge_circ X Y a b β i = 0)) : ec_I2 n X Y L a b β (i + 1) m := by
  obtain ⟨h1, h2, h3, h4⟩ := h
  refine ⟨h1, h2, h3, fun d hd k1 k2 => ?_⟩
  by_cases e : d = i
  · subst e
    apply Classical.byContradiction; intro q
    exact hk ⟨by omega, k1, k2⟩
  · exact h4 d (by omega) k1 k2
theorem ec_I2_end (inj : ge_InjXY n X Y) (h12 : n ≤ 12) (hx : ∀ i, i < n → -1000000 ≤ X i ∧ X i ≤ 1000000) (hy : ∀ i, i < n → -1000000 ≤ Y i ∧ Y i ≤ 1000000) (ha : a < n) (hb : b < n)
    {β m c : Nat} (g : ec_can n (ge_PP X Y) L a b β) (g0 : ge_circ X Y a b β c = 0) (w : ec_win n (ge_PP X Y) L a b c)
    (h : ec_I2 n X Y L a b β n m) (n1 : m ≠ a) (n2 : m ≠ b) : m = c := by
  obtain ⟨h1, h2, h3, h4⟩ := h
  rcases h1 with h1 | h1 | ⟨h1, h5, h6⟩
  · exact absurd h1 n1
  · exact absurd h1 n2
  apply Classical.byContradiction; intro ne
  have t := (ge_tied (X := X) (Y := Y) (e := m) w.2.1.1 g.1 g0).2.mp h6
  have := h4 c w.1 w.2.1 g0
  exact ((ge_won inj h12 hx hy ha hb w.1 h1 (Ne.symm ne) w.2.1.1 h5.1 (w.2.2 m h1 h5 ne)).2 t).1 ⟨by omega, by omega, by omega⟩
/-- the one beside the least -/
def ec_I3 (n : Nat) (X Y : Nat → Int) (L : Nat → Nat → Prop) (a b β i f : Nat) : Prop :=
  f < n ∧ ec_can n (ge_PP X Y) L a b f ∧ ge_circ X Y a b β f = 0 ∧ ∀ c, ec_win n (ge_PP X Y) L a b c → f = c ∨ i ≤ c
/-- whether i lies nearer to the least than f -/
def ec_bes (X Y : Nat → Int) (a b m i f : Nat) : Int := if m = a then ge_ori (ge_PP X Y b) (ge_PP X Y i) (ge_PP X Y f) else ge_ori (ge_PP X Y i) (ge_PP X Y a) (ge_PP X Y f)
theorem ec_bes_win (inj : ge_InjXY n X Y) (h12 : n ≤ 12) (hx : ∀ i, i < n → -1000000 ≤ X i ∧ X i ≤ 1000000) (hy : ∀ i, i < n → -1000000 ≤ Y i ∧ Y i ≤ 1000000) (ha : a < n) (hb : b < n) (hab : a ≠ b)
    {β m c d : Nat} (g : ec_can n (ge_PP X Y) L a b β) (g0 : ge_circ X Y a b β c = 0) (w : ec_win n (ge_PP X Y) L a b c)
    (h : ec_I2 n X Y L a b β n m) (hm : m = a ∨ m = b) (hd : d < n) (cd : ec_can n (ge_PP X Y) L a b d) (d0 : ge_circ X Y a b β d = 0) (ne : d ≠ c) : 0 < ec_bes X Y a b m c d := by
  obtain ⟨h1, h2, h3, h4⟩ := h
  have t := (ge_tied (X := X) (Y := Y) (e := d) w.2.1.1 g.1 g0).2.mp d0
  have k1 := h4 c w.1 w.2.1 g0
  have k2 := h4 d hd cd d0
  have won := (ge_won inj h12 hx hy ha hb w.1 hd (Ne.symm ne) w.2.1.1 cd.1 (w.2.2 d hd cd ne)).2 t
  have q1 : c ≠ a := by intro e; have := w.2.1.1; subst e; rw [ge_ori_aba] at this; omega
  have q2 : c ≠ b := by intro e; have := w.2.1.1; subst e; rw [ge_ori_abb] at this; omega
  have q3 : d ≠ a := by intro e; have := cd.1; subst e; rw [ge_ori_aba] at this; omega
  have q4 : d ≠ b := by intro e; have := cd.1; subst e; rw [ge_ori_abb] at this; omega
  unfold ec_bes
  rcases hm with e | e
  · rw [if_pos e]; exact won.2.1 ⟨by omega, by omega, by omega⟩
  · rw [if_neg (by omega)]; exact won.2.2 ⟨by omega, by omega, by omega⟩
theorem ec_bes_anti (m i f : Nat) : ec_bes X Y a b m f i = - ec_bes X Y a b m i f := by
  unfold ec_bes
  split
  · exact ge_swp2 _ _ _
  · exact ge_swp3 _ _ _
theorem ec_I3_0 {β : Nat} (hβ : β < n) (g : ec_can n (ge_PP X Y) L a b β) : ec_I3 n X Y L a b β 0 β := ⟨hβ, g, ec_circ_same _, fun c _ => Or.inr (by omega)⟩
theorem ec_I3_take (inj : ge_InjXY n X Y) (h12 : n ≤ 12) (hx : ∀ i, i < n → -1000000 ≤ X i ∧ X i ≤ 1000000) (hy : ∀ i, i < n → -1000000 ≤ Y i ∧ Y i ≤ 1000000) (ha : a < n) (hb : b < n) (hab : a ≠ b)
    {β m i f : Nat} (g : ec_can n (ge_PP X Y) L a b β) (gw : ∀ c, ec_win n (ge_PP X Y) L a b c → ge_circ X Y a b β c = 0)
    (h2 : ec_I2 n X Y L a b β n m) (hm : m = a ∨ m = b) (h : ec_I3 n X Y L a b β i f) (hi : i < n) (ci : ec_can n (ge_PP X Y) L a b i) (i0 : ge_circ X Y a b β i = 0)
    (hp : 0 < ec_bes X Y a b m i f) : ec_I3 n X Y L a b β (i + 1) i := by
  refine ⟨hi, ci, i0, fun c w => ?_⟩
  by_cases e : i = c
  · exact Or.inl e
  · rcases h.2.2.2 c w with q | q
    · exfalso
      have := ec_bes_win inj h12 hx hy ha hb hab g (gw c w) w h2 hm hi ci i0 e
      have := ec_bes_anti (X := X) (Y := Y) (a := a) (b := b) m i f
      subst q
      omega
    · exact Or.inr (by omega)
theorem ec_I3_keep (inj : ge_InjXY n X Y) (h12 : n ≤ 12) (hx : ∀ i, i < n → -1000000 ≤ X i ∧ X i ≤ 1000000) (hy : ∀ i, i < n → -1000000 ≤ Y i ∧ Y i ≤ 1000000) (ha : a < n) (hb : b < n) (hab : a ≠ b)
    {β m i f : Nat} (g : ec_can n (ge_PP X Y) L a b β) (gw : ∀ c, ec_win n (ge_PP X Y) L a b c → ge_circ X Y a b β c = 0)
    (h2 : ec_I2 n X Y L a b β n m) (hm : m = a ∨ m = b) (h : ec_I3 n X Y L a b β i f)
    (hk : ¬ (i ≠ f ∧ ec_can n (ge_PP X Y) L a b i ∧ ge_circ X Y a b β i = 0 ∧ 0 < ec_bes X Y a b m i f)) : ec_I3 n X Y L a b β (i + 1) f := by
  refine ⟨h.1, h.2.1, h.2.2.1, fun c w => ?_⟩
  rcases h.2.2.2 c w with q | q
  · exact Or.inl q
  · by_cases e : i = c
    · by_cases e2 : f = c
      · exact Or.inl e2
      · exfalso
        subst e
        exact hk ⟨fun z => e2 z.symm, w.2.1, gw i w, ec_bes_win inj h12 hx hy ha hb hab g (gw i w) w h2 hm h.1 h.2.1 h.2.2.1 e2⟩
    · exact Or.inr (by omega)
end
