/-! for the third corner, and for what the reference finds from it -/
section
variable {p : Program} {l : Launch} {e : Env} {R : Room} {s : State} {m : MethodId} {args : Array Value} {below : List Frame} {meth : Method} {c : Code} {H : Heap} {locs : List Loc} {cells slots : Nat} {Q : State → Prop} {cc : ByteArray} {pc : Nat} {ls : Array Slot} {rest : List Value}
theorem ec_oi_neg {o : Option Nat} (ho : ∀ j, o = some j → j < 2 ^ 31) : ec_oi o < 0 ↔ o = none := by
  cases o with
  | none => exact ⟨fun _ => rfl, fun _ => by decide⟩
  | some j => exact ⟨fun h => absurd h (by show ¬ nI j < 0; rw [Int32.lt_iff_toInt_lt, nI_toInt (ho j rfl), ec_z32]; omega), fun h => by cases h⟩
theorem ec_oi_not {o : Option Nat} (h : ¬ o = none) : ∃ j, o = some j := by
  cases o with
  | none => exact absurd rfl h
  | some j => exact ⟨j, rfl⟩
theorem ec_if_ltO (hx : p.tables.exec = Jvm.exec) (hb : c.code = cc) {o : Option Nat} (ho : ∀ j, o = some j → j < 2 ^ 31) {off : Int} {tgt : Nat} (hd : decode cc pc = .ok (.ifCond .lt off, 3)) (ht : (pc : Int) + off = (tgt : Int))
    (kt : o = none → W p l e R s m args below meth c H locs cells slots Q (F0 m tgt ls rest)) (kf : (∃ j, o = some j) → W p l e R s m args below meth c H locs cells slots Q (F0 m (pc + 3) ls rest)) : W p l e R s m args below meth c H locs cells slots Q (F0 m pc ls (.int (ec_oi o) :: rest)) :=
  lv_if_lt hx hb hd ht (fun h => kt ((ec_oi_neg ho).mp h)) (fun h => kf (ec_oi_not (fun q => h ((ec_oi_neg ho).mpr q))))
theorem ec_if_geO (hx : p.tables.exec = Jvm.exec) (hb : c.code = cc) {o : Option Nat} (ho : ∀ j, o = some j → j < 2 ^ 31) {off : Int} {tgt : Nat} (hd : decode cc pc = .ok (.ifCond .ge off, 3)) (ht : (pc : Int) + off = (tgt : Int))
    (kt : (∃ j, o = some j) → W p l e R s m args below meth c H locs cells slots Q (F0 m tgt ls rest)) (kf : o = none → W p l e R s m args below meth c H locs cells slots Q (F0 m (pc + 3) ls rest)) : W p l e R s m args below meth c H locs cells slots Q (F0 m pc ls (.int (ec_oi o) :: rest)) :=
  lv_if_ge hx hb hd ht (fun h => kt (ec_oi_not (fun q => by rw [q] at h; exact absurd h (by decide)))) (fun h => kf ((ec_oi_neg ho).mp (by
    rw [Int32.le_iff_toInt_le] at h
    rw [Int32.lt_iff_toInt_lt]; omega)))
end
section
variable {pn : Nat} {px py : Nat → Int32} {v w z d : Int32} {i j k i4 : Nat}
theorem ec_sgn_ne2 (x : Int) : ¬ ec_sgn x = nI 2 := by
  unfold ec_sgn
  split
  · decide
  · split <;> decide
theorem ec_tur_has (h : ¬ ec_turF pn px py v w z = nI 2) : ec_hs pn v ∧ ec_hs pn w ∧ ec_hs pn z := Classical.byContradiction fun q => h (ec_turF_no q).symm
theorem ec_cir_2 (h : ec_turF pn px py v w z = nI 2) : nI 2 = ec_cirF pn px py v w z d := by
  apply ec_cirF_no
  rintro ⟨h1, h2, h3, _⟩
  unfold ec_turF at h
  rw [ec_if_t ⟨h1, h2, h3⟩] at h
  exact ec_sgn_ne2 _ h
theorem ec_cir_0 (h : ec_turF pn px py v w z = 0) : nI 2 = ec_cirF pn px py v w z d := by
  unfold ec_cirF
  rw [ec_if_f]
  · decide
  · rintro ⟨⟨h1, h2, h3, _⟩, h4⟩
    unfold ec_turF at h
    rw [ec_if_t ⟨h1, h2, h3⟩] at h
    exact h4 ((ec_sgn_eq _).mp h)
theorem ec_circ_23 (i j k m : Nat) : ec_circ px py i k j m = - ec_circ px py i j k m := by
  unfold ec_circ
  rw [ge_circ_eq, ge_circ_eq]
  grind
theorem ec_cir_p (g12 : pn ≤ 12) (hi : i < pn) (hj : j < pn) (hk : k < pn) (hd : i4 < pn) (h : ¬ ec_turF pn px py (nI i) (nI j) (nI k) ≤ 0) : ec_sgn (ec_circ px py i j k i4) = ec_cirF pn px py (nI i) (nI j) (nI k) (nI i4) := by
  rw [ec_turF_yes g12 hi hj hk] at h
  rw [ec_sgn_le] at h
  rw [ec_cirF_yes g12 hi hj hk hd (by omega), ec_sgn_pos (z := ge_ori _ _ _) (by omega)]
  exact (Int32.one_mul _).symm
theorem ec_cir_n (g12 : pn ≤ 12) (hi : i < pn) (hj : j < pn) (hk : k < pn) (hd : i4 < pn) (h : ec_turF pn px py (nI i) (nI j) (nI k) ≤ 0) (h0 : ¬ ec_turF pn px py (nI i) (nI j) (nI k) = 0) : ec_sgn (ec_circ px py i k j i4) = ec_cirF pn px py (nI i) (nI j) (nI k) (nI i4) := by
  rw [ec_turF_yes g12 hi hj hk] at h h0
  rw [ec_sgn_le] at h
  rw [ec_sgn_eq] at h0
  have e := ec_sgn_neg (z := ge_ori (ec_P px py i) (ec_P px py j) (ec_P px py k)) (by omega)
  rw [ec_cirF_yes g12 hi hj hk hd (by omega), ec_circ_23, ec_sgn_opp, e]
  unfold ec_sgn
  split
  · decide
  · split <;> decide
end
/-- what the search for a third corner comes back with -/
def ec_thd (n : Nat) (P : Nat → ge_Pt) (L : Nat → Nat → Prop) (a b : Nat) (o : Option Nat) : Prop :=
  (o = none → ∀ d, d < n → ¬ ec_can n P L a b d) ∧ ∀ f, o = some f → f < n ∧ ec_can n P L a b f ∧ ∀ c, ec_win n P L a b c → f = c
theorem ec_thd_some {n : Nat} {P : Nat → ge_Pt} {T : Nat → Nat → Nat → Prop} {L : Nat → Nat → Prop} (M : ge_Mesh n P T) (good : ge_Good P T L) (hl : ∀ a b, L a b → ge_Edge T a b) {a b c : Nat} (h : T a b c) {o : Option Nat} (k : ec_thd n P L a b o) : o = some c := by
  have w := ec_win_mesh M good hl h
  cases o with
  | none => exact absurd w.2.1 (k.1 rfl c w.1)
  | some f => rw [(k.2 f rfl).2.2 c w]
theorem ec_thd_none {n : Nat} {P : Nat → ge_Pt} {T : Nat → Nat → Nat → Prop} {L : Nat → Nat → Prop} (M : ge_Mesh n P T) {a b c : Nat} (h : T b a c) (hn : ∀ d, ¬ T a b d) {o : Option Nat} (k : ec_thd n P L a b o) : o = none := by
  cases o with
  | none => rfl
  | some f => exact absurd (k.2 f rfl).2.1 (ec_none_mesh M h hn (k.2 f rfl).1)
section
variable {n : Nat} {X Y : Nat → Int} {L : Nat → Nat → Prop} {a b : Nat}
theorem ec_I2_a {β : Nat} (h : a < b) : ec_I2 n X Y L a b β 0 a := by
  have := ec_I2_0 (n := n) (X := X) (Y := Y) (L := L) (a := a) (b := b) (β := β)
  rw [Nat.min_eq_left (by omega)] at this; exact this
theorem ec_I2_b {β : Nat} (h : b ≤ a) : ec_I2 n X Y L a b β 0 b := by
  have := ec_I2_0 (n := n) (X := X) (Y := Y) (L := L) (a := a) (b := b) (β := β)
  rw [Nat.min_eq_right (by omega)] at this; exact this
theorem ec_thd_0 {i : Nat} (h : ec_I1 n X Y L a b i none) (hi : n ≤ i) : ec_thd n (ge_PP X Y) L a b none := ⟨fun _ d hd => h.1 rfl d (by omega), fun f q => by cases q⟩
/-- the best is on the winner's circle -/
def ec_bst (n : Nat) (X Y : Nat → Int) (L : Nat → Nat → Prop) (a b β : Nat) : Prop := β < n ∧ ec_can n (ge_PP X Y) L a b β ∧ ∀ c, ec_win n (ge_PP X Y) L a b c → ge_circ X Y a b β c = 0
theorem ec_bst_of {i β : Nat} (h : ec_I1 n X Y L a b i (some β)) (h1 : i ≤ n) (h2 : n ≤ i) : ec_bst n X Y L a b β := by
  have g := h.2 β rfl
  exact ⟨by omega, g.2.1, fun c w => g.2.2 c w (by have := w.1; omega)⟩
theorem ec_thd_2 (inj : ge_InjXY n X Y) (h12 : n ≤ 12) (hx : ∀ i, i < n → -1000000 ≤ X i ∧ X i ≤ 1000000) (hy : ∀ i, i < n → -1000000 ≤ Y i ∧ Y i ≤ 1000000) (ha : a < n) (hb : b < n) {β i m : Nat} (B : ec_bst n X Y L a b β) (h : ec_I2 n X Y L a b β i m) (h1 : i ≤ n) (h2 : n ≤ i) (n1 : ¬ m = a) (n2 : ¬ m = b) : ec_thd n (ge_PP X Y) L a b (some m) := by
  have : i = n := by omega
  subst this
  refine ⟨fun q => (by cases q), fun f q => ?_⟩
  cases q
  rcases h.1 with q | q | q
  · exact absurd q n1
  · exact absurd q n2
  · exact ⟨q.1, q.2.1, fun c w => ec_I2_end inj h12 hx hy ha hb B.2.1 (B.2.2 c w) w h n1 n2⟩
theorem ec_thd_3 {β i f : Nat} (h : ec_I3 n X Y L a b β i f) (h2 : n ≤ i) : ec_thd n (ge_PP X Y) L a b (some f) := by
  refine ⟨fun q => (by cases q), fun f' q => ?_⟩
  cases q
  exact ⟨h.1, h.2.1, fun c w => by rcases h.2.2.2 c w with q | q; exact q; have := w.1; omega⟩
theorem ec_I2_c {β i i' m : Nat} (h : ec_I2 n X Y L a b β i m) (e : i = i') : ec_I2 n X Y L a b β i' m := e ▸ h
theorem ec_bes_a {m i f : Nat} (h : m = a) : ec_bes X Y a b m i f = ge_ori (ge_PP X Y b) (ge_PP X Y i) (ge_PP X Y f) := if_pos h
theorem ec_bes_b {m i f : Nat} (h : ¬ m = a) : ec_bes X Y a b m i f = ge_ori (ge_PP X Y i) (ge_PP X Y a) (ge_PP X Y f) := if_neg h
end
/-- found among the triangles -/
def ec_fnd (k : Nat) (A B C : Nat → Nat) (x y z : Nat) : Prop := ∃ t, t < k ∧ ec_rot3 A B C t x y z
theorem ec_fnd_s {k : Nat} {A B C : Nat → Nat} {x y z : Nat} : ec_fnd (k + 1) A B C x y z ↔ (ec_fnd k A B C x y z ∨ ec_rot3 A B C k x y z) := by
  constructor
  · rintro ⟨t, ht, q⟩
    by_cases e : t = k
    · subst e; exact Or.inr q
    · exact Or.inl ⟨t, by omega, q⟩
  · rintro (⟨t, ht, q⟩ | q)
    · exact ⟨t, by omega, q⟩
    · exact ⟨k, by omega, q⟩
theorem ec_fnd_0 {A B C : Nat → Nat} {x y z : Nat} : ¬ ec_fnd 0 A B C x y z := fun ⟨t, ht, _⟩ => by omega
/-- a side of the hull -/
def ec_hul (n : Nat) (P : Nat → ge_Pt) (a b : Nat) : Prop := a ≠ b ∧ (∀ c, c < n → 0 ≤ ge_ori (P a) (P b) (P c)) ∧ ge_Clear n P a b ∧ ∃ c, c < n ∧ 0 < ge_ori (P a) (P b) (P c)
def ec_hu1 (P : Nat → ge_Pt) (a b : Nat) (c : Nat) : Prop := 0 ≤ ge_ori (P a) (P b) (P c) ∧ (c ≠ a → c ≠ b → ¬ ge_Btw (P a) (P b) (P c))
def ec_hu2 (P : Nat → ge_Pt) (a b : Nat) (f t : Nat) : Prop := (f = 0 → ∀ c, c < t → ¬ 0 < ge_ori (P a) (P b) (P c)) ∧ (¬ f = 0 → ∃ c, c < t ∧ 0 < ge_ori (P a) (P b) (P c))
theorem ec_hu2_1 {P : Nat → ge_Pt} {a b t : Nat} {f : Nat} (h : ec_hu2 P a b f t) (k : ¬ f = 0 ∨ 0 < ge_ori (P a) (P b) (P t)) : ec_hu2 P a b 1 (t + 1) := by
  refine ⟨fun q => by omega, fun _ => ?_⟩
  rcases k with k | k
  · obtain ⟨c, hc, q⟩ := h.2 k; exact ⟨c, by omega, q⟩
  · exact ⟨t, by omega, k⟩
theorem ec_hu2_0 {P : Nat → ge_Pt} {a b t : Nat} {f : Nat} (h : ec_hu2 P a b f t) (k0 : f = 0) (k : ge_ori (P a) (P b) (P t) ≤ 0) : ec_hu2 P a b 0 (t + 1) :=
  ⟨fun _ => lt_s (h.1 k0) (by omega), fun q => absurd rfl q⟩
theorem ec_hul_t {n : Nat} {P : Nat → ge_Pt} {a b f t : Nat} (h1 : ∀ c, c < t → ec_hu1 P a b c) (h2 : ec_hu2 P a b f t) (ht : n ≤ t) (ht2 : t ≤ n) (ne : ¬ a = b) (hf : ¬ f = 0) : ec_hul n P a b := by
  obtain ⟨c, hc, q⟩ := h2.2 hf
  exact ⟨ne, fun c hc => (h1 c (by omega)).1, fun v hv a1 a2 z => (h1 v (by omega)).2 a1 a2 z, c, by omega, q⟩
theorem ec_hul_f {n : Nat} {P : Nat → ge_Pt} {a b f t : Nat} (h2 : ec_hu2 P a b f t) (ht : n ≤ t) (hf : f = 0) : ¬ ec_hul n P a b :=
  fun ⟨_, _, _, c, hc, q⟩ => h2.1 hf c (by omega) q
/-- the triangle with a side -/
def ec_lfo (k : Nat) (A B C : Nat → Nat) (x y : Nat) (o : Option Nat) : Prop := (∀ t, o = some t → t < k ∧ ec_sd A B C t x y) ∧ (o = none → ∀ t, t < k → ¬ ec_sd A B C t x y)
theorem ec_lfo_0 {A B C : Nat → Nat} {x y : Nat} : ec_lfo 0 A B C x y none := ⟨fun t q => (by cases q), fun _ t h => by omega⟩
theorem ec_lfo_y {k : Nat} {A B C : Nat → Nat} {x y : Nat} (h : ec_sd A B C k x y) : ec_lfo (k + 1) A B C x y (some k) := ⟨fun t q => by cases q; exact ⟨by omega, h⟩, fun q => (by cases q)⟩
theorem ec_lfo_n {k : Nat} {A B C : Nat → Nat} {x y : Nat} {o : Option Nat} (h : ec_lfo k A B C x y o) (hn : ¬ ec_sd A B C k x y) : ec_lfo (k + 1) A B C x y o :=
  ⟨fun t q => by have := h.1 t q; exact ⟨by omega, this.2⟩, fun q => lt_s (h.2 q) hn⟩
theorem ec_lfo_c {k k' : Nat} {A B C : Nat → Nat} {x y : Nat} {o : Option Nat} (h : ec_lfo k A B C x y o) (e : k = k') : ec_lfo k' A B C x y o := e ▸ h
def ec_opR (k : Nat) (A B C : Nat → Nat) (L : Nat → Nat → Prop) (x y : Nat) : Prop := ¬ L x y ∧ ∀ t, t < k → ¬ ec_sd A B C t y x
def ec_nxR (k : Nat) (A B C : Nat → Nat) (L : Nat → Nat → Prop) (g : Nat → Prop) (x y : Nat) : Prop := ¬ L x y ∧ ∃ t, t < k ∧ ec_sd A B C t y x ∧ g t
def ec_uq3 (k : Nat) (A B C : Nat → Nat) : Prop := ∀ t u x y, t < k → u < k → ec_sd A B C t x y → ec_sd A B C u x y → t = u
abbrev ec_T6 : Type := Nat × (Nat → Nat) × (Nat → Nat) × (Nat → Nat) × (Nat → Prop) × (Nat → Int64)
def ec_GR (n : Nat) (P : Nat → ge_Pt) (L : Nat → Nat → Prop) (rc : Nat) (A B C : Nat → Nat) (g : Nat → Prop) (a b : Nat) (u : ec_T6) : Prop :=
  ∃ o, ec_thd n P L a b o ∧ ((∃ c, o = some c ∧ ¬ ec_fnd rc A B C a b c ∧ (u.1, u.2.1, u.2.2.1, u.2.2.2.1, u.2.2.2.2.1) = (rc + 1, va_up A rc a, va_up B rc b, va_up C rc c, va_up g rc False)) ∨
    ((∀ c, o = some c → 24 ≤ rc ∨ ec_fnd rc A B C a b c) ∧ (u.1, u.2.1, u.2.2.1, u.2.2.2.1, u.2.2.2.2.1) = (rc, A, B, C, g)))
def ec_tf (kf : Nat → Prop) (rk : Nat) (x y z : Prop) : Nat → Prop := va_up (va_up (va_up kf (3 * rk) x) (3 * rk + 1) y) (3 * rk + 2) z
abbrev ec_K3 : Type := Nat × (Nat → Nat) × (Nat → Prop)
def ec_KE (rk : Nat) (kc : Nat → Nat) (kf : Nat → Prop) (L : Nat → Nat → Prop) (i j k : Nat) (u : ec_K3) : Prop :=
  ((i ≤ j ∧ i ≤ k) ∧ u = (rk + 1, ec_tc kc rk i j k, ec_tf kf rk (L i j) (L j k) (L k i))) ∨ (¬ (i ≤ j ∧ i ≤ k) ∧ u = (rk, kc, kf))
