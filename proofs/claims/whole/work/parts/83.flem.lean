/-! the reference's filling -/
def ec_RD (T : Nat → Nat → Nat → Prop) (k : Nat) (A B C : Nat → Nat) (g : Nat → Prop) : Prop := ec_RF T k A B C ∧ (∀ s, s < k → ¬ g s) ∧ k ≤ 19
def ec_GT (T : Nat → Nat → Nat → Prop) (rc : Nat) (A B C : Nat → Nat) (a b : Nat) (u : ec_T6) : Prop :=
  ec_RD T u.1 u.2.1 u.2.2.1 u.2.2.2.1 u.2.2.2.2.1 ∧ rc ≤ u.1 ∧ u.1 ≤ rc + 1 ∧ (∀ s, s < rc → u.2.1 s = A s ∧ u.2.2.1 s = B s ∧ u.2.2.2.1 s = C s) ∧ ∀ w, T a b w → ec_fnd u.1 u.2.1 u.2.2.1 u.2.2.2.1 a b w
def ec_F1 (T : Nat → Nat → Nat → Prop) (n : Nat) (P : Nat → ge_Pt) (rc : Nat) (A B C : Nat → Nat) (g : Nat → Prop) (a b : Nat) : Prop :=
  ec_RD T rc A B C g ∧ rc ≤ 1 ∧ (rc = 0 → ∀ x y, y < n → (x < a ∨ (x = a ∧ y < b)) → ¬ ec_hul n P x y)
def ec_F2 (T : Nat → Nat → Nat → Prop) (rc : Nat) (A B C : Nat → Nat) (g : Nat → Prop) (t : Nat) : Prop :=
  ec_RD T rc A B C g ∧ t ≤ rc ∧ (0 < rc ∨ ∀ x y z, ¬ T x y z) ∧ ∀ s, s < t → ∀ x y w, ec_sd A B C s x y → T y x w → ec_fnd rc A B C y x w
def ec_RA (T : Nat → Nat → Nat → Prop) (rc : Nat) (A B C : Nat → Nat) (g : Nat → Prop) : Prop := ec_RD T rc A B C g ∧ ∀ a b c, T a b c → ec_fnd rc A B C a b c
section
variable {rn : Nat} {rx ry : Nat → Int32} {rl : Nat} {rf rt lr : Nat → Nat} {T : Nat → Nat → Nat → Prop} {rc : Nat} {A B C : Nat → Nat} {g : Nat → Prop}
theorem ec_Full.rot (gF : ec_Full rn rx ry rl rf rt T) (a b c : Nat) (k : T a b c) : T b c a := by
  rcases gF with ⟨_, M, _⟩ | ⟨_, e⟩
  · exact M.rot k
  · exact absurd k (e a b c)
theorem ec_Full.uni (gF : ec_Full rn rx ry rl rf rt T) (a b c d : Nat) (k : T a b c) (k' : T a b d) : c = d := by
  rcases gF with ⟨_, M, _⟩ | ⟨_, e⟩
  · exact M.uni k k'
  · exact absurd k (e a b c)
theorem ec_Full.ne (gF : ec_Full rn rx ry rl rf rt T) {a b c : Nat} (k : T a b c) : (a < rn ∧ b < rn ∧ c < rn) ∧ a ≠ b ∧ b ≠ c ∧ a ≠ c := by
  rcases gF with ⟨_, M, _⟩ | ⟨_, e⟩
  · exact ⟨M.lt k, M.ne k⟩
  · exact absurd k (e a b c)
theorem ec_Full.mesh (gF : ec_Full rn rx ry rl rf rt T) {a b c : Nat} (k : T a b c) : ge_Mesh rn (ec_P rx ry) T ∧ ge_Good (ec_P rx ry) T (ec_E rl rf rt) ∧ ∀ a b, ec_E rl rf rt a b → ge_Edge T a b := by
  rcases gF with ⟨_, M, h⟩ | ⟨_, e⟩
  · exact ⟨M, h⟩
  · exact absurd k (e a b c)
theorem ec_RD.lt (gF : ec_Full rn rx ry rl rf rt T) (h : ec_RD T rc A B C g) : ∀ s, s < rc → A s < rn ∧ B s < rn ∧ C s < rn := fun s hs => (gF.ne (h.1.1 s hs)).1
theorem ec_RD.ne (gF : ec_Full rn rx ry rl rf rt T) (h : ec_RD T rc A B C g) : ∀ s, s < rc → A s ≠ B s ∧ B s ≠ C s ∧ A s ≠ C s := fun s hs => (gF.ne (h.1.1 s hs)).2
theorem ec_grow_T (gS : ec_SI rn rx ry rl rf rt lr) (gF : ec_Full rn rx ry rl rf rt T) (h : ec_RD T rc A B C g) {a b : Nat} (ed : (∃ c, T a b c) ∨ (∃ c, T b a c)) {u : ec_T6} (k : ec_GR rn (ec_P rx ry) (ec_E rl rf rt) rc A B C g a b u) : ec_GT T rc A B C a b u := by
  have MM : ge_Mesh rn (ec_P rx ry) T ∧ ge_Good (ec_P rx ry) T (ec_E rl rf rt) ∧ ∀ a b, ec_E rl rf rt a b → ge_Edge T a b := by
    rcases ed with ⟨c, q⟩ | ⟨c, q⟩
    · exact gF.mesh q
    · exact gF.mesh q
  obtain ⟨M, good, hl⟩ := MM
  obtain ⟨u1, u2, u3, u4, u5, u6⟩ := u
  obtain ⟨o, th, k⟩ := k
  by_cases q : ∃ c, T a b c
  · obtain ⟨c, q⟩ := q
    have e := ec_thd_some M good hl q th
    subst e
    rcases k with ⟨c', e, nf, eu⟩ | ⟨fn, eu⟩
    · cases e
      cases eu
      have rf' := ec_RF_add h.1 q (fun t ht z => nf ⟨t, ht, z⟩)
      have c1 := ec_RF_count M rf'
      have c2 := M.count gS.inj gS.1 gS.el
      refine ⟨⟨rf', fun s hs => ?_, ?_⟩, ?_, ?_, fun s hs => ?_, fun w hw => ?_⟩
      · show ¬ va_up g rc False s
        have hs' : s < rc + 1 := hs
        by_cases e : s = rc
        · subst e; rw [va_up_self]; exact fun z => z
        · rw [va_up_ne _ _ e]; exact h.2.1 s (by omega)
      · show rc + 1 ≤ 19; omega
      · show rc ≤ rc + 1; omega
      · exact Nat.le_refl _
      · show va_up A rc a s = A s ∧ va_up B rc b s = B s ∧ va_up C rc c s = C s
        rw [va_up_ne A a (by omega), va_up_ne B b (by omega), va_up_ne C c (by omega)]
        exact ⟨rfl, rfl, rfl⟩
      · have := M.uni hw q
        subst this
        exact ⟨rc, Nat.lt_succ_self _, ec_RF_new.mpr (Or.inl ⟨rfl, rfl, rfl⟩)⟩
    · cases eu
      refine ⟨h, Nat.le_refl _, Nat.le_succ _, fun s hs => ⟨rfl, rfl, rfl⟩, fun w hw => ?_⟩
      have := M.uni hw q
      subst this
      rcases fn w rfl with z | z
      · have := h.2.2; omega
      · exact z
  · have q' : ∀ d, ¬ T a b d := fun d z => q ⟨d, z⟩
    rcases ed with ⟨c, z⟩ | ⟨c, z⟩
    · exact absurd z (q' c)
    have e := ec_thd_none M z q' th
    subst e
    rcases k with ⟨c', e, _⟩ | ⟨_, eu⟩
    · cases e
    · cases eu
      exact ⟨h, Nat.le_refl _, Nat.le_succ _, fun s hs => ⟨rfl, rfl, rfl⟩, fun w hw => absurd hw (q' w)⟩
theorem ec_F1_0 : ec_F1 T rn (ec_P rx ry) 0 A B C g 0 0 := ⟨⟨⟨fun t ht => by omega, fun t u x y z ht => by omega⟩, fun s hs => by omega, by omega⟩, by omega, fun _ x y _ q => by omega⟩
theorem ec_F1_row {i j : Nat} (h : ec_F1 T rn (ec_P rx ry) rc A B C g i j) (k : rn ≤ j ∨ ¬ rc = 0) : ec_F1 T rn (ec_P rx ry) rc A B C g (i + 1) 0 :=
  ⟨h.1, h.2.1, fun q x y hy z => h.2.2 q x y hy (by omega)⟩
theorem ec_F1_no {i j : Nat} (h : ec_F1 T rn (ec_P rx ry) rc A B C g i j) (k : ¬ ec_hul rn (ec_P rx ry) i j) : ec_F1 T rn (ec_P rx ry) rc A B C g i (j + 1) :=
  ⟨h.1, h.2.1, fun q x y hy z => by
    by_cases e : x = i ∧ y = j
    · rw [e.1, e.2]; exact k
    · exact h.2.2 q x y hy (by omega)⟩
theorem ec_hul_T (gS : ec_SI rn rx ry rl rf rt lr) (gF : ec_Full rn rx ry rl rf rt T) {i j : Nat} (hi : i < rn) (hj : j < rn) (k : ec_hul rn (ec_P rx ry) i j) : ∃ c, T i j c := by
  obtain ⟨c, hc, pos⟩ := k.2.2.2
  rcases gF with ⟨_, M, _⟩ | ⟨ns, _⟩
  · exact ge_hull_side M gS.inj hi hj k.1 k.2.2.1 k.2.1
  · exact absurd ⟨i, j, c, hi, hj, hc, by omega⟩ ns
theorem ec_F1_yes {i j : Nat} (h0 : rc = 0) {u : ec_T6} (hT : ∃ c, T i j c) (k : ec_GT T rc A B C i j u) : ec_F1 T rn (ec_P rx ry) u.1 u.2.1 u.2.2.1 u.2.2.2.1 u.2.2.2.2.1 i (j + 1) := by
  obtain ⟨c, hT⟩ := hT
  obtain ⟨t, ht, _⟩ := k.2.2.2.2 c hT
  have := k.2.2.1
  exact ⟨k.1, by omega, fun q => by omega⟩
theorem ec_F2_0 (gS : ec_SI rn rx ry rl rf rt lr) (gF : ec_Full rn rx ry rl rf rt T) {i : Nat} (h : ec_F1 T rn (ec_P rx ry) rc A B C g i 0) (k : rn ≤ i ∨ ¬ rc = 0) : ec_F2 T rc A B C g 0 := by
  refine ⟨h.1, by omega, ?_, fun s hs => by omega⟩
  by_cases q : rc = 0
  · refine Or.inr ?_
    rcases gF with ⟨sp, M, _⟩ | ⟨_, e⟩
    · exfalso
      obtain ⟨x, _, _, hx, _⟩ := sp
      obtain ⟨a, b, c, hT, hv⟩ := ge_hull_ex M (K := 3000000) gS.el (show 0 < rn by omega)
      have l := M.lt hT
      exact h.2.2 q a b l.2.1 (Or.inl (by omega)) ⟨(M.ne hT).1, hv, fun v hv h1 h2 => M.clear hT hv h1 h2, c, l.2.2, M.pos hT⟩
    · exact e
  · exact Or.inl (by omega)
theorem ec_GT.mono {a b : Nat} {u : ec_T6} (k : ec_GT T rc A B C a b u) {x y z : Nat} (h : ec_fnd rc A B C x y z) : ec_fnd u.1 u.2.1 u.2.2.1 u.2.2.2.1 x y z := by
  obtain ⟨t, ht, r⟩ := h
  have := k.2.1
  refine ⟨t, by omega, ?_⟩
  have s := k.2.2.2.1 t ht
  unfold ec_rot3 at *
  rw [s.1, s.2.1, s.2.2]; exact r
theorem ec_F2_step {t : Nat} (h : ec_F2 T rc A B C g t) (ht : t < rc) {u1 u2 u3 : ec_T6} (k1 : ec_GT T rc A B C (B t) (A t) u1) (k2 : ec_GT T u1.1 u1.2.1 u1.2.2.1 u1.2.2.2.1 (u1.2.2.2.1 t) (u1.2.2.1 t) u2)
    (k3 : ec_GT T u2.1 u2.2.1 u2.2.2.1 u2.2.2.2.1 (u2.2.1 t) (u2.2.2.2.1 t) u3) : ec_F2 T u3.1 u3.2.1 u3.2.2.1 u3.2.2.2.1 u3.2.2.2.2.1 (t + 1) := by
  have l1 := k1.2.1; have l2 := k2.2.1; have l3 := k3.2.1
  have e : ∀ s, s < rc → (u1.2.1 s = A s ∧ u1.2.2.1 s = B s ∧ u1.2.2.2.1 s = C s) ∧ (u2.2.1 s = A s ∧ u2.2.2.1 s = B s ∧ u2.2.2.2.1 s = C s) ∧ (u3.2.1 s = A s ∧ u3.2.2.1 s = B s ∧ u3.2.2.2.1 s = C s) := by
    intro s hs
    have a1 := k1.2.2.2.1 s hs
    have a2 := k2.2.2.2.1 s (by omega)
    have a3 := k3.2.2.2.1 s (by omega)
    rw [a1.1, a1.2.1, a1.2.2] at a2
    rw [a2.1, a2.2.1, a2.2.2] at a3
    exact ⟨a1, a2, a3⟩
  refine ⟨k3.1, by omega, Or.inl (by omega), fun s hs x y w sd hw => ?_⟩
  have es := e s (by omega)
  have sd' : ec_sd A B C s x y := by
    unfold ec_sd at *
    rw [es.2.2.1, es.2.2.2.1, es.2.2.2.2] at sd
    exact sd
  by_cases q : s = t
  · subst q
    have b2 := k2.2.2.2.2
    have b3 := k3.2.2.2.2
    rw [es.1.2.2, es.1.2.1] at b2
    rw [es.2.1.1, es.2.1.2.2] at b3
    rcases sd' with ⟨rfl, rfl⟩ | ⟨rfl, rfl⟩ | ⟨rfl, rfl⟩
    · exact k3.mono (k2.mono (k1.2.2.2.2 w hw))
    · exact k3.mono (b2 w hw)
    · exact b3 w hw
  · exact k3.mono (k2.mono (k1.mono (h.2.2.2 s (by omega) x y w sd' hw)))
theorem ec_RA_of (gS : ec_SI rn rx ry rl rf rt lr) (gF : ec_Full rn rx ry rl rf rt T) {t : Nat} (h : ec_F2 T rc A B C g t) (ht : rc ≤ t) : ec_RA T rc A B C g := by
  refine ⟨h.1, fun a b c k => ?_⟩
  rcases h.2.2.1 with q | q
  · exact ec_RF_all (gF.mesh k).1 gS.inj h.1.1 q (fun s x y w hs sd hw => h.2.2.2 s (by omega) x y w sd hw) k
  · exact absurd k (q a b c)
/-! the reference's carving -/
theorem ec_uq3_of (gF : ec_Full rn rx ry rl rf rt T) (h : ec_RD T rc A B C g) : ec_uq3 rc A B C := by
  intro t u x y ht hu s s'
  obtain ⟨z, r⟩ := ec_sd_rot3 s
  obtain ⟨z', r'⟩ := ec_sd_rot3 s'
  have k := ec_rot3_T (T := T) gF.rot (h.1.1 t ht) r
  have k' := ec_rot3_T (T := T) gF.rot (h.1.1 u hu) r'
  have := gF.uni _ _ _ _ k k'
  subst this
  exact h.1.2 t u x y z ht hu r r'
theorem ec_op_iff (gF : ec_Full rn rx ry rl rf rt T) (h : ec_RA T rc A B C g) {x y : Nat} : ec_opR rc A B C (ec_E rl rf rt) x y ↔ ec_opn2 T (ec_E rl rf rt) x y := by
  unfold ec_opR ec_opn2
  constructor
  · rintro ⟨h1, h2⟩
    refine ⟨h1, fun d k => ?_⟩
    obtain ⟨t, ht, r⟩ := h.2 _ _ _ k
    exact h2 t ht (ec_rot3_sd r)
  · rintro ⟨h1, h2⟩
    refine ⟨h1, fun t ht s => ?_⟩
    obtain ⟨z, r⟩ := ec_sd_rot3 s
    exact h2 z (ec_rot3_T (T := T) gF.rot (h.1.1.1 t ht) r)
end
def ec_C1 (rc : Nat) (S : Nat → Prop) (g : Nat → Prop) (t : Nat) : Prop := ∀ u, u < rc → (u < t → (g u ↔ S u)) ∧ (¬ u < t → ¬ g u)
def ec_C2 (rc : Nat) (S : Nat → Prop) (bh : Prop) (Hx : Nat → Nat → Prop) (g : Nat → Prop) (t h : Nat) : Prop := ∀ u, u < rc → (u < t → (g u ↔ S u)) ∧ (t < u → ¬ g u) ∧ (u = t → (g u ↔ (bh ∧ ∃ x, x < h ∧ Hx u x)))
section
variable {rc : Nat} {S : Nat → Prop} {bh : Prop} {Hx : Nat → Nat → Prop} {g : Nat → Prop} {t h : Nat}
theorem ec_C1_0 (k : ∀ s, s < rc → ¬ g s) : ec_C1 rc S g 0 := fun u hu => ⟨fun q => by omega, fun _ => k u hu⟩
theorem ec_C2_0 (k : ec_C1 rc S g t) : ec_C2 rc S bh Hx g t 0 := fun u hu => ⟨(k u hu).1, fun q => (k u hu).2 (by omega), fun q => ⟨fun z => absurd z ((k u hu).2 (by omega)), fun ⟨_, x, hx, _⟩ => by omega⟩⟩
theorem ec_C2_up (k : ec_C2 rc S bh Hx g t h) (ht : t < rc) {Q : Prop} {h' : Nat} (e : Q ↔ (bh ∧ ∃ x, x < h' ∧ Hx t x)) : ec_C2 rc S bh Hx (va_up g t Q) t h' := fun u hu => by
  by_cases q : u = t
  · subst q; rw [va_up_self]; exact ⟨fun z => by omega, fun z => by omega, fun _ => e⟩
  · rw [va_up_ne _ _ q]; exact ⟨(k u hu).1, (k u hu).2.1, fun z => absurd z q⟩
theorem ec_C2_y (k : ec_C2 rc S bh Hx g t h) (ht : t < rc) (b : bh) (q : g t ∨ Hx t h) : ec_C2 rc S bh Hx (va_up g t True) t (h + 1) :=
  ec_C2_up k ht ⟨fun _ => by
    rcases q with q | q
    · obtain ⟨_, x, hx, z⟩ := ((k t ht).2.2 rfl).mp q
      exact ⟨b, x, by omega, z⟩
    · exact ⟨b, h, by omega, q⟩, fun _ => trivial⟩
theorem ec_C2_n (k : ec_C2 rc S bh Hx g t h) (ht : t < rc) (q1 : ¬ g t) (q2 : ¬ Hx t h) : ec_C2 rc S bh Hx (va_up g t False) t (h + 1) :=
  ec_C2_up k ht ⟨fun q => q.elim, fun ⟨b, x, hx, z⟩ => by
    by_cases e : x = h
    · subst e; exact q2 z
    · exact q1 (((k t ht).2.2 rfl).mpr ⟨b, x, by omega, z⟩)⟩
theorem ec_C1_up (k : ec_C2 rc S bh Hx g t h) {Q : Prop} (e : Q ↔ S t) : ec_C1 rc S (va_up g t Q) (t + 1) := fun u hu => by
  by_cases q : u = t
  · subst q; rw [va_up_self]; exact ⟨fun _ => e, fun z => by omega⟩
  · rw [va_up_ne _ _ q]; exact ⟨fun z => (k u hu).1 (by omega), fun z => (k u hu).2.1 (by omega)⟩
theorem ec_C1_y (k : ec_C2 rc S bh Hx g t h) (q : S t) : ec_C1 rc S (va_up g t True) (t + 1) := ec_C1_up k ⟨fun _ => q, fun _ => trivial⟩
theorem ec_C1_n (k : ec_C2 rc S bh Hx g t h) (q : ¬ S t) : ec_C1 rc S (va_up g t False) (t + 1) := ec_C1_up k ⟨fun z => z.elim, fun z => q z⟩
theorem ec_C2_at (k : ec_C2 rc S bh Hx g t h) (ht : t < rc) {n : Nat} (hle : h ≤ n) (ex : n ≤ h ∨ ¬ bh) : g t ↔ (bh ∧ ∃ x, x < n ∧ Hx t x) := by
  rw [(k t ht).2.2 rfl]
  constructor
  · rintro ⟨b, x, hx, z⟩; exact ⟨b, x, by omega, z⟩
  · rintro ⟨b, x, hx, z⟩
    rcases ex with e | e
    · exact ⟨b, x, by omega, z⟩
    · exact absurd b e
end
def ec_bsR (k : Nat) (A B C : Nat → Nat) (L : Nat → Nat → Prop) (g : Nat → Prop) (t : Nat) : Prop := ec_nxR k A B C L g (A t) (B t) ∨ ec_nxR k A B C L g (B t) (C t) ∨ ec_nxR k A B C L g (C t) (A t)
theorem ec_bsR_mono {k : Nat} {A B C : Nat → Nat} {L : Nat → Nat → Prop} : ∀ g g' : Nat → Prop, (∀ v, v < k → g v → g' v) → ∀ t, t < k → ec_bsR k A B C L g t → ec_bsR k A B C L g' t := by
  intro g g' h t _ q
  have one : ∀ x y, ec_nxR k A B C L g x y → ec_nxR k A B C L g' x y := fun x y ⟨h1, u, hu, s, z⟩ => ⟨h1, u, hu, s, h u hu z⟩
  rcases q with q | q | q
  · exact Or.inl (one _ _ q)
  · exact Or.inr (Or.inl (one _ _ q))
  · exact Or.inr (Or.inr (one _ _ q))
theorem ec_bsR_he {k : Nat} {A B C : Nat → Nat} {L : Nat → Nat → Prop} : ∀ g g' : Nat → Prop, (∀ u, u < k → (g u ↔ g' u)) → ∀ t, t < k → (ec_bsR k A B C L g t ↔ ec_bsR k A B C L g' t) := fun g g' h t ht =>
  ⟨ec_bsR_mono g g' (fun v hv => (h v hv).mp) t ht, ec_bsR_mono g' g (fun v hv => (h v hv).mpr) t ht⟩
def ec_RQ (k : Nat) (bs : (Nat → Prop) → Nat → Prop) (mk g : Nat → Prop) (ro : Nat) : Prop := (ec_closed k bs g ∨ (ro : Int) ≤ ec_cnt k g) ∧ (∀ u, u < k → mk u → g u) ∧ ∀ u, u < k → g u → ec_Cl k bs mk u
def ec_RP (k : Nat) (bs : (Nat → Prop) → Nat → Prop) (mk g0 g : Nat → Prop) (t : Nat) : Prop := ec_RdR k bs g0 g t ∧ (∀ u, u < k → mk u → g u) ∧ ∀ u, u < k → g u → ec_Cl k bs mk u
section
variable {k : Nat} {bs : (Nat → Prop) → Nat → Prop} {mk g0 g : Nat → Prop} {t ro : Nat}
theorem ec_RQ_0 (h : ∀ u, u < k → (g u ↔ mk u)) : ec_RQ k bs mk g 0 := ⟨Or.inr (ec_cnt_nonneg _ _), fun u hu => (h u hu).mpr, fun u hu q G g1 _ => g1 u hu ((h u hu).mp q)⟩
theorem ec_RP_0 (h : ec_RQ k bs mk g ro) : ec_RP k bs mk g g 0 := ⟨ec_RdR_0, h.2⟩
theorem ec_up_prop {g : Nat → Prop} {t : Nat} {Q Q' : Prop} (e : Q ↔ Q') : va_up g t Q = va_up g t Q' := by rw [propext e]
theorem ec_RP_t (he : ∀ g g' : Nat → Prop, (∀ u, u < k → (g u ↔ g' u)) → ∀ t, t < k → (bs g t ↔ bs g' t)) (mono : ∀ g g' : Nat → Prop, (∀ v, v < k → g v → g' v) → ∀ t, t < k → bs g t → bs g' t)
    (h : ec_RP k bs mk g0 g t) (ht : t < k) (q : g t ∨ bs g t) : ec_RP k bs mk g0 (va_up g t True) (t + 1) := by
  refine ⟨?_, fun u hu z => ec_up_mono u (h.2.1 u hu z), fun u hu z => ?_⟩
  · have := ec_RdR_step he h.1 ht
    rw [ec_up_prop (Q' := True) ⟨fun _ => trivial, fun _ => q⟩] at this
    exact this
  · by_cases e : u = t
    · subst e
      rcases q with q | q
      · exact h.2.2 u hu q
      · intro G g1 g2
        exact g2 u hu (mono g G (fun v hv z => h.2.2 v hv z G g1 g2) u hu q)
    · rw [va_up_ne _ _ e] at z; exact h.2.2 u hu z
theorem ec_RP_f (he : ∀ g g' : Nat → Prop, (∀ u, u < k → (g u ↔ g' u)) → ∀ t, t < k → (bs g t ↔ bs g' t))
    (h : ec_RP k bs mk g0 g t) (ht : t < k) (q1 : ¬ g t) (q2 : ¬ bs g t) : ec_RP k bs mk g0 (va_up g t False) (t + 1) := by
  have same : ∀ u, va_up g t False u ↔ g u := by
    intro u
    by_cases e : u = t
    · subst e; rw [va_up_self]; exact ⟨fun z => z.elim, fun z => q1 z⟩
    · rw [va_up_ne _ _ e]
  refine ⟨?_, fun u hu z => (same u).mpr (h.2.1 u hu z), fun u hu z => h.2.2 u hu ((same u).mp z)⟩
  have := ec_RdR_step he h.1 ht
  rw [ec_up_prop (Q' := False) ⟨fun z => by rcases z with z | z; exact q1 z; exact q2 z, fun z => z.elim⟩] at this
  exact this
theorem ec_RQ_row (he : ∀ g g' : Nat → Prop, (∀ u, u < k → (g u ↔ g' u)) → ∀ t, t < k → (bs g t ↔ bs g' t)) (h : ec_RQ k bs mk g0 ro) (h2 : ec_RP k bs mk g0 g t) (ht : k ≤ t) (ht2 : t ≤ k) : ec_RQ k bs mk g (ro + 1) := by
  have : t = k := by omega
  subst this
  exact ⟨ec_RdR_end he h.1 h2.1, h2.2⟩
theorem ec_RQ_end (h : ec_RQ k bs mk g ro) (hr : k ≤ ro) : ∀ u, u < k → (g u ↔ ec_Cl k bs mk u) := by
  have cl : ec_closed k bs g := ec_closed_all (by
    rcases h.1 with q | q
    · exact Or.inl q
    · exact Or.inr (by omega))
  intro u hu
  exact ⟨h.2.2 u hu, fun q => q g h.2.1 (fun v hv z => by
    rcases cl v hv with w | w
    · exact w
    · exact absurd z w)⟩
end
theorem ec_carveR {rn : Nat} {rx ry : Nat → Int32} {rl : Nat} {rf rt : Nat → Nat} {T : Nat → Nat → Nat → Prop} {rc : Nat} {A B C : Nat → Nat} {g0 : Nat → Prop} (gF : ec_Full rn rx ry rl rf rt T) (h : ec_RA T rc A B C g0) {Sd : Nat → Nat → Nat → Prop} (sr : ∀ a b c, Sd a b c → Sd b c a) {g : Nat → Prop}
    (hg : ∀ t, t < rc → (g t ↔ ec_Cl rc (ec_bsR rc A B C (ec_E rl rf rt)) (fun u => Sd (A u) (B u) (C u)) t)) : ∀ t, t < rc → (g t ↔ ec_Gone T (ec_E rl rf rt) Sd (A t) (B t) (C t)) := by
  have tri : ∀ t, t < rc → T (A t) (B t) (C t) := fun t ht => h.1.1.1 t ht
  refine ec_marks (T := T) (L := ec_E rl rf rt) (Sd := Sd) (A := A) (B := B) (C := C) g gF.rot tri (fun a b c k => h.2 a b c k) (fun t u a b c ht hu r r' => h.1.1.2 t u a b c ht hu r r') (fun a b c _ => sr a b c) ?_ ?_ ?_
  · intro t ht q
    refine (hg t ht).mp q (fun t => t < rc → ec_Gone T (ec_E rl rf rt) Sd (A t) (B t) (C t)) (fun v hv z _ => ec_Gone_seed (tri v hv) z) (fun v hv z _ => ?_) ht
    have kv := tri v hv
    have one : ∀ x y w, T x y w → ec_nxR rc A B C (ec_E rl rf rt) (fun t => t < rc → ec_Gone T (ec_E rl rf rt) Sd (A t) (B t) (C t)) x y → ec_Gone T (ec_E rl rf rt) Sd x y w := by
      rintro x y w hT ⟨nl, u, hu, s, z⟩
      obtain ⟨d, r⟩ := ec_sd_rot3 s
      have kd := ec_rot3_T (T := T) gF.rot (tri u hu) r
      have gd : ec_Gone T (ec_E rl rf rt) Sd y x d := by
        have z := z hu
        rcases r with ⟨rfl, rfl, rfl⟩ | ⟨rfl, rfl, rfl⟩ | ⟨rfl, rfl, rfl⟩
        · exact z
        · exact ec_Gone_rot z
        · exact ec_Gone_rot (ec_Gone_rot z)
      exact ec_Gone_step hT kd nl gd
    rcases z with z | z | z
    · exact one _ _ _ kv z
    · exact ec_Gone_rot (ec_Gone_rot (one _ _ _ (gF.rot _ _ _ kv) z))
    · exact ec_Gone_rot (one _ _ _ (gF.rot _ _ _ (gF.rot _ _ _ kv)) z)
  · intro t ht q
    exact (hg t ht).mpr (fun G g1 _ => g1 t ht q)
  · intro t u x y ht hu s s' nl q
    refine (hg t ht).mpr (fun G g1 g2 => g2 t ht ?_)
    have z : ec_nxR rc A B C (ec_E rl rf rt) G x y := ⟨nl, u, hu, s', (hg u hu).mp q G g1 g2⟩
    rcases s with ⟨rfl, rfl⟩ | ⟨rfl, rfl⟩ | ⟨rfl, rfl⟩
    · exact Or.inl z
    · exact Or.inr (Or.inl z)
    · exact Or.inr (Or.inr z)
/-! the reference's numbering -/
def ec_fx (L : Nat → Nat → Prop) (rk : Nat) (kc : Nat → Nat) (kf : Nat → Prop) : Prop := ∀ s k, s < rk → k < 3 → (kf (3 * s + k) ↔ L (kc (3 * s + k)) (kc (3 * s + ec_nx k)))
def ec_BK (K : Nat → Nat → Nat → Prop) (L : Nat → Nat → Prop) (rk : Nat) (kc : Nat → Nat) (kf : Nat → Prop) (m : Nat) : Prop := ec_En K rk kc m ∧ ec_fx L rk kc kf
section
variable {rn : Nat} {rx ry : Nat → Int32} {rl : Nat} {rf rt lr : Nat → Nat} {T : Nat → Nat → Nat → Prop} {L : Nat → Nat → Prop} {Sd : Nat → Nat → Nat → Prop} {rk : Nat} {kc : Nat → Nat} {kf : Nat → Prop} {rc : Nat} {A B C : Nat → Nat} {g0 : Nat → Prop}
theorem ec_BK_0 {K : Nat → Nat → Nat → Prop} : ec_BK K L 0 kc kf 0 := ⟨ec_En_nil _ _, fun s k hs => by omega⟩
theorem ec_Kept_le (gS : ec_SI rn rx ry rl rf rt lr) (gF : ec_Full rn rx ry rl rf rt T) {m : Nat} (h : ec_En (ec_Kept T L Sd) rk kc m) : rk ≤ 19 := by
  by_cases q : rk = 0
  · omega
  have k0 := (h.1 0 (by omega)).1.1
  have M := (gF.mesh k0).1
  have h1 := ec_En_count (n := rn) h (fun a b c q => M.lt q.1)
  have h2 : ge_cnt3 rn (fun a b c => ec_Kept T L Sd a b c ∧ a < b ∧ a < c) ≤ ge_cnt3 rn (fun a b c => T a b c ∧ a < b ∧ a < c) := ge_cnt3_le fun x y z q => ⟨q.1.1, q.2⟩
  have h3 := M.count gS.inj gS.1 gS.el
  omega
theorem ec_BK_skip {K : Nat → Nat → Nat → Prop} {m m' : Nat} (h : ec_BK K L rk kc kf m) (hm : m ≤ m') (hn : ∀ x y z, K x y z → x < y → x < z → m ≤ x * 12 + y → x * 12 + y < m' → False) : ec_BK K L rk kc kf m' := ⟨ec_En_skip h.1 hm hn, h.2⟩
theorem ec_BK_row (gF : ec_Full rn rx ry rl rf rt T) (g12 : rn ≤ 12) {i j : Nat} (h : ec_BK (ec_Kept T L Sd) L rk kc kf (i * 12 + j)) (hj : rn ≤ j) (hj2 : j ≤ 12) : ec_BK (ec_Kept T L Sd) L rk kc kf ((i + 1) * 12) :=
  ec_BK_skip h (by omega) (fun x y z k h1 h2 h3 h4 => by have := (gF.ne k.1).1; omega)
theorem ec_BK_no (gF : ec_Full rn rx ry rl rf rt T) (g12 : rn ≤ 12) {i j : Nat} (h : ec_BK (ec_Kept T L Sd) L rk kc kf (i * 12 + j)) (hi : i < rn) (hj : j < rn) (hn : ∀ z, ¬ ec_Kept T L Sd i j z) : ec_BK (ec_Kept T L Sd) L rk kc kf (i * 12 + (j + 1)) :=
  ec_BK_skip h (by omega) (fun x y z k h1 h2 h3 h4 => by
    have l := (gF.ne k.1).1
    have e1 : x = i := by omega
    have e2 : y = j := by omega
    subst e1; subst e2
    exact hn z k)
theorem ec_tf_lo {n t : Nat} {x y z : Prop} (h : t < 3 * n) : ec_tf kf n x y z t = kf t := by
  unfold ec_tf
  rw [va_up_ne _ _ (by omega), va_up_ne _ _ (by omega), va_up_ne _ _ (by omega)]
theorem ec_tf_0 {n : Nat} {x y z : Prop} : ec_tf kf n x y z (3 * n) = x := by unfold ec_tf; rw [va_up_ne _ _ (by omega), va_up_ne _ _ (by omega), va_up_self]
theorem ec_tf_1 {n : Nat} {x y z : Prop} : ec_tf kf n x y z (3 * n + 1) = y := by unfold ec_tf; rw [va_up_ne _ _ (by omega), va_up_self]
theorem ec_tf_2 {n : Nat} {x y z : Prop} : ec_tf kf n x y z (3 * n + 2) = z := by unfold ec_tf; rw [va_up_self]
theorem ec_BK_put (gF : ec_Full rn rx ry rl rf rt T) (g12 : rn ≤ 12) {i j z : Nat} (h : ec_BK (ec_Kept T L Sd) L rk kc kf (i * 12 + j)) (k : ec_Kept T L Sd i j z) {u : ec_K3} (ke : ec_KE rk kc kf L i j z u) : ec_BK (ec_Kept T L Sd) L u.1 u.2.1 u.2.2 (i * 12 + (j + 1)) := by
  have l := gF.ne k.1
  have one : ∀ x' y' z', ec_Kept T L Sd x' y' z' → x' < y' → x' < z' → x' * 12 + y' = i * 12 + j → x' = i ∧ y' = j ∧ z' = z := by
    intro x' y' z' q h1 h2 h3
    have l' := (gF.ne q.1).1
    have e1 : x' = i := by omega
    have e2 : y' = j := by omega
    subst e1; subst e2
    exact ⟨rfl, rfl, gF.uni _ _ _ _ q.1 k.1⟩
  rcases ke with ⟨q, rfl⟩ | ⟨q, rfl⟩
  · refine ⟨ec_En_add h.1 k (by omega) (by omega) rfl one (fun t ht => ec_tc_lo ht) ec_tc_0 ec_tc_1 ec_tc_2, fun s x hs hx => ?_⟩
    show ec_tf kf rk (L i j) (L j z) (L z i) (3 * s + x) ↔ L (ec_tc kc rk i j z (3 * s + x)) (ec_tc kc rk i j z (3 * s + ec_nx x))
    have hs' : s < rk + 1 := hs
    have hn : ec_nx x < 3 := by have := ec_nx_lt (k := x) (by omega); omega
    by_cases e : s = rk
    · subst e
      have : x = 0 ∨ x = 1 ∨ x = 2 := by omega
      rcases this with rfl | rfl | rfl
      · rw [ec_nx0, Nat.add_zero, ec_tf_0, ec_tc_0, ec_tc_1]
      · rw [ec_nx1, ec_tf_1, ec_tc_1, ec_tc_2]
      · rw [ec_nx22, ec_tf_2, ec_tc_2]
        show L z i ↔ L z (ec_tc kc s i j z (3 * s))
        rw [ec_tc_0]
    · rw [ec_tf_lo (by omega), ec_tc_lo (by omega), ec_tc_lo (by omega)]
      exact h.2 s x (by omega) hx
  · exact ec_BK_skip h (by omega) (fun x y w q' h1 h2 h3 h4 => by
      obtain ⟨rfl, rfl, rfl⟩ := one x y w q' h1 h2 (by omega)
      exact q ⟨by omega, by omega⟩)
/-- what the numbering reads off the carved triangles -/
theorem ec_lf_none (h : ec_RA T rc A B C g0) {i j : Nat} (n : ∀ t, t < rc → ¬ ec_sd A B C t i j) : ∀ z, ¬ ec_Kept T L Sd i j z := fun z k => by
  obtain ⟨t, ht, r⟩ := h.2 _ _ _ k.1
  exact n t ht (ec_rot3_sd r)
theorem ec_lf_gone (gF : ec_Full rn rx ry rl rf rt T) (h : ec_RA T rc A B C g0) {g : Nat → Prop} (hg : ∀ t, t < rc → (g t ↔ ec_Gone T L Sd (A t) (B t) (C t))) {i j t : Nat} (ht : t < rc) (s : ec_sd A B C t i j) (q : g t) : ∀ z, ¬ ec_Kept T L Sd i j z := fun z k => by
  obtain ⟨u, hu, r⟩ := h.2 _ _ _ k.1
  have := ec_uq3_of gF h.1 t u i j ht hu s (ec_rot3_sd r)
  subst this
  have gd := (hg t ht).mp q
  apply k.2
  rcases r with ⟨rfl, rfl, rfl⟩ | ⟨rfl, rfl, rfl⟩ | ⟨rfl, rfl, rfl⟩
  · exact gd
  · exact ec_Gone_rot gd
  · exact ec_Gone_rot (ec_Gone_rot gd)
theorem ec_lf_kept (gF : ec_Full rn rx ry rl rf rt T) (h : ec_RA T rc A B C g0) {g : Nat → Prop} (hg : ∀ t, t < rc → (g t ↔ ec_Gone T L Sd (A t) (B t) (C t))) {i j z t : Nat} (ht : t < rc) (r : ec_rot3 A B C t i j z) (q : ¬ g t) : ec_Kept T L Sd i j z := by
  refine ⟨ec_rot3_T (T := T) gF.rot (h.1.1.1 t ht) r, fun gd => q ((hg t ht).mpr ?_)⟩
  rcases r with ⟨rfl, rfl, rfl⟩ | ⟨rfl, rfl, rfl⟩ | ⟨rfl, rfl, rfl⟩
  · exact gd
  · exact ec_Gone_rot (ec_Gone_rot gd)
  · exact ec_Gone_rot gd
theorem ec_BK_end (gS : ec_SI rn rx ry rl rf rt lr) (gF : ec_Full rn rx ry rl rf rt T) {m : Nat} (h : ec_BK (ec_Kept T L Sd) L rk kc kf m) (hm : rn * 12 ≤ m) (hm2 : m ≤ 144) : ec_En (ec_Kept T L Sd) rk kc 144 ∧ ec_fx L rk kc kf ∧ rk ≤ 19 ∧ ∀ i, i < 3 * rk → kc i < rn := by
  have g12 := gS.1
  exact ⟨ec_En_skip h.1 hm2 (fun x y z k _ _ q _ => by have := (gF.ne k.1).1; omega), h.2, ec_Kept_le gS gF h.1, ec_En_lt (fun a b c k => (gF.ne k.1).1) h.1⟩
end
