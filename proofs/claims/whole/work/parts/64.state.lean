/-! what holds of vertices and segments at all times -/
def ec_SI (pn : Nat) (px py : Nat → Int32) (ln : Nat) (lf lt lr : Nat → Nat) : Prop :=
  pn ≤ 12 ∧ (∀ i, i < pn → ec_near (px i) ∧ ec_near (py i)) ∧ ge_InjXY pn (fun i => (px i).toInt) (fun i => (py i).toInt) ∧ ln ≤ 10 ∧
  ge_Pre pn (ec_P px py) (ec_E ln lf lt) ∧ ec_once ln lf lt ∧ ec_R lr (ec_E ln lf lt)
section
variable {pn : Nat} {px py : Nat → Int32} {ln : Nat} {lf lt lr : Nat → Nat}
theorem ec_SI.inj (h : ec_SI pn px py ln lf lt lr) : ge_Inj pn (ec_P px py) := h.2.2.1
theorem ec_SI.el (h : ec_SI pn px py ln lf lt lr) : ∀ i j, i < pn → j < pn → ge_el 3000000 (ec_P px py i) = ge_el 3000000 (ec_P px py j) → i = j :=
  ge_el_inj h.2.2.1 (fun i hi => (h.2.1 i hi).2)
theorem ec_SI.links (h : ec_SI pn px py ln lf lt lr) : ∀ i, i < ln → lf i < pn ∧ lt i < pn := fun i hi => h.2.2.2.2.1.lt ⟨i, hi, Or.inl ⟨rfl, rfl⟩⟩
theorem ec_SI.links3 (h : ec_SI pn px py ln lf lt lr) : ∀ i, i < ln → lf i < 12 ∧ lt i < 12 ∧ lf i ≠ lt i := fun i hi => by
  have q : ec_E ln lf lt (lf i) (lt i) := ⟨i, hi, Or.inl ⟨rfl, rfl⟩⟩
  have l := h.2.2.2.2.1.lt q
  have := h.1
  exact ⟨by omega, by omega, h.2.2.2.2.1.ne q⟩
theorem ec_SI.lift (h : ec_SI pn px py ln lf lt lr) : ge_Lift pn (ec_P px py) := ge_PP_Lift h.2.2.1
end
theorem ec_clear {n : Nat} {P : Nat → ge_Pt} {i j : Nat} (h : ¬ ∃ v, v < n ∧ v ≠ i ∧ v ≠ j ∧ ge_Btw (P i) (P j) (P v)) : ge_Clear n P i j :=
  fun v hv h1 h2 hb => h ⟨v, hv, h1, h2, hb⟩
theorem ec_nocross {P : Nat → ge_Pt} {k : Nat} {f g : Nat → Nat} {i j : Nat} (h : ¬ ∃ t, t < k ∧ ge_Cr (P i) (P j) (P (f t)) (P (g t))) : ∀ c d, ec_E k f g c d → ¬ ge_Cr (P i) (P j) (P c) (P d) := by
  rintro c d ⟨t, ht, ⟨rfl, rfl⟩ | ⟨rfl, rfl⟩⟩ q
  · exact h ⟨t, ht, q⟩
  · exact h ⟨t, ht, ge_Cr_comm2 q⟩
theorem ec_clear' {n : Nat} {P : Nat → ge_Pt} {i j : Nat} (h : ge_Clear n P i j) : ¬ ∃ v, v < n ∧ v ≠ i ∧ v ≠ j ∧ ge_Btw (P i) (P j) (P v) :=
  fun ⟨v, hv, h1, h2, hb⟩ => h v hv h1 h2 hb
theorem ec_nocross' {P : Nat → ge_Pt} {k : Nat} {f g : Nat → Nat} {i j : Nat} (h : ∀ c d, ec_E k f g c d → ¬ ge_Cr (P i) (P j) (P c) (P d)) : ¬ ∃ t, t < k ∧ ge_Cr (P i) (P j) (P (f t)) (P (g t)) :=
  fun ⟨t, ht, q⟩ => h _ _ ⟨t, ht, Or.inl ⟨rfl, rfl⟩⟩ q
/-- whether the side from i to j has room among those drawn -/
def ec_room (pn : Nat) (px py : Nat → Int32) (sn : Nat) (sf st sr : Nat → Nat) (i j : Nat) : Prop :=
  ¬ (sr i).testBit j = true ∧ ¬ (∃ v, v < pn ∧ v ≠ i ∧ v ≠ j ∧ ge_Btw (ec_P px py i) (ec_P px py j) (ec_P px py v)) ∧ ¬ (∃ t, t < sn ∧ ge_Cr (ec_P px py i) (ec_P px py j) (ec_P px py (sf t)) (ec_P px py (st t)))
theorem ec_room_J {pn : Nat} {px py : Nat → Int32} {sn : Nat} {sf st sr : Nat → Nat} {i j : Nat} (hR : ec_R sr (ec_E sn sf st)) (hi : i < 12) (hj : j < 12) :
    ec_room pn px py sn sf st sr i j ↔ (¬ ec_E sn sf st i j ∧ ge_Clear pn (ec_P px py) i j ∧ ∀ c d, ec_E sn sf st c d → ¬ ge_Cr (ec_P px py i) (ec_P px py j) (ec_P px py c) (ec_P px py d)) := by
  unfold ec_room
  rw [hR.2 i j hi hj]
  exact ⟨fun ⟨h1, h2, h3⟩ => ⟨h1, ec_clear h2, ec_nocross h3⟩, fun ⟨h1, h2, h3⟩ => ⟨h1, ec_clear' h2, ec_nocross' h3⟩⟩
/-- between rows and columns of drawing sides -/
def ec_DS (pn : Nat) (px py : Nat → Int32) (L : Nat → Nat → Prop) (sn : Nat) (sf st sr : Nat → Nat) (i j : Nat) : Prop :=
  ec_J pn (ec_P px py) L (ec_E sn sf st) i j ∧ ec_once sn sf st ∧ ec_R sr (ec_E sn sf st) ∧ sn ≤ 30
theorem ec_DS.lt {pn : Nat} {px py : Nat → Int32} {L : Nat → Nat → Prop} {sn : Nat} {sf st sr : Nat → Nat} {i j : Nat} (h : ec_DS pn px py L sn sf st sr i j) : ∀ t, t < sn → sf t < pn ∧ st t < pn :=
  fun t ht => h.1.1.lt ⟨t, ht, Or.inl ⟨rfl, rfl⟩⟩
theorem ec_DS.skip {pn : Nat} {px py : Nat → Int32} {L : Nat → Nat → Prop} {sn : Nat} {sf st sr : Nat → Nat} {i j : Nat} (h : ec_DS pn px py L sn sf st sr i j) (hi : i < 12) (hj : j < 12) (hr : ¬ ec_room pn px py sn sf st sr i j) : ec_DS pn px py L sn sf st sr i (j + 1) :=
  ⟨ec_J_skip h.1 (fun q => hr ((ec_room_J h.2.2.1 hi hj).mpr q)), h.2⟩
theorem ec_DS.row {pn : Nat} {px py : Nat → Int32} {L : Nat → Nat → Prop} {sn : Nat} {sf st sr : Nat → Nat} {i j : Nat} (h : ec_DS pn px py L sn sf st sr i j) (hj : pn ≤ j) : ec_DS pn px py L sn sf st sr (i + 1) (i + 1 + 1) := ⟨ec_J_row h.1 hj, h.2⟩
theorem ec_DS.small {pn : Nat} {px py : Nat → Int32} {ln : Nat} {lf lt lr : Nat → Nat} (gS : ec_SI pn px py ln lf lt lr) {sn : Nat} {sf st sr : Nat → Nat} {i j : Nat} (h : ec_DS pn px py (ec_E ln lf lt) sn sf st sr i j) (hij : i < j) (hj : j < pn) (hr : ec_room pn px py sn sf st sr i j) : sn < 30 := by
  have q := (ec_room_J h.2.2.1 (by have := gS.1; omega) (by have := gS.1; omega)).mp hr
  exact ec_J_room h.1 gS.inj gS.1 gS.el h.2.1 hij hj q.1 q.2.1 q.2.2
theorem ec_DS.add {pn : Nat} {px py : Nat → Int32} {ln : Nat} {lf lt lr : Nat → Nat} (gS : ec_SI pn px py ln lf lt lr) {sn : Nat} {sf st sr : Nat → Nat} {i j : Nat} (h : ec_DS pn px py (ec_E ln lf lt) sn sf st sr i j) (hij : i < j) (hj : j < pn) (hr : ec_room pn px py sn sf st sr i j) :
    ec_DS pn px py (ec_E ln lf lt) (sn + 1) (va_up sf sn i) (va_up st sn j) (va_up (va_up sr i (sr i ||| 2 ^ j)) j (va_up sr i (sr i ||| 2 ^ j) j ||| 2 ^ i)) i (j + 1) := by
  have g := gS.1
  have q := (ec_room_J h.2.2.1 (by omega) (by omega)).mp hr
  have sm := ec_DS.small gS h hij hj hr
  refine ⟨ec_J_iff (fun x y => (ec_E_add x y).symm) (ec_J_add h.1 hij hj q.2.1 q.2.2), ec_once_add h.2.1 q.1, ?_, by omega⟩
  exact ec_R_iff (ec_R_add2 h.2.2.1 (by omega) (by omega) (by omega)) (fun x y => (ec_E_add x y).symm)
theorem ec_once_congr {k : Nat} {f g f' g' : Nat → Nat} (h : ec_once k f g) (h1 : ∀ i, i < k → f' i = f i) (h2 : ∀ i, i < k → g' i = g i) : ec_once k f' g' := by
  intro i hi q
  rw [h1 i hi, h2 i hi, ec_E_congr (fun j hj => h1 j (by omega)) (fun j hj => h2 j (by omega))] at q
  exact h i hi q
theorem ec_DS.start {pn : Nat} {px py : Nat → Int32} {ln : Nat} {lf lt lr : Nat → Nat} (gS : ec_SI pn px py ln lf lt lr) {u : Nat × (Nat → Nat) × (Nat → Nat) × (Nat → Nat)} (h : u.1 = ln ∧ (∀ j, j < ln → u.2.1 j = lf j ∧ u.2.2.1 j = lt j) ∧ ec_R u.2.2.2 (ec_E ln lf lt)) :
    ec_DS pn px py (ec_E ln lf lt) u.1 u.2.1 u.2.2.1 u.2.2.2 0 (0 + 1) := by
  obtain ⟨h1, h2, h3⟩ := h
  have e : ∀ x y, ec_E ln lf lt x y ↔ ec_E u.1 u.2.1 u.2.2.1 x y := by
    intro x y; rw [h1]; exact (ec_E_congr (fun i hi => (h2 i hi).1) (fun i hi => (h2 i hi).2) x y).symm
  refine ⟨ec_J_iff e (ec_J_start gS.2.2.2.2.1), ?_, ec_R_iff h3 e, ?_⟩
  · rw [h1]; exact ec_once_congr gS.2.2.2.2.2.1 (fun i hi => (h2 i hi).1) (fun i hi => (h2 i hi).2)
  · have := gS.2.2.2.1; omega
/-- sides drawn until none fits -/
def ec_PL (pn : Nat) (px py : Nat → Int32) (L : Nat → Nat → Prop) (sn : Nat) (sf st sr : Nat → Nat) : Prop :=
  ge_Plan pn (ec_P px py) (ec_E sn sf st) ∧ (∀ x y, L x y → ec_E sn sf st x y) ∧ ec_R sr (ec_E sn sf st) ∧ sn ≤ 30
theorem ec_DS.fin {pn : Nat} {px py : Nat → Int32} {L : Nat → Nat → Prop} {sn : Nat} {sf st sr : Nat → Nat} {i j : Nat} (h : ec_DS pn px py L sn sf st sr i j) (hi : pn ≤ i) : ec_PL pn px py L sn sf st sr :=
  ⟨ec_J_end h.1 hi, h.1.2.1, h.2.2.1, h.2.2.2⟩
theorem ec_R_zero {r : Nat → Nat} (h : ∀ j, j < 12 → r j = 0) : ec_R r (fun _ _ => False) := ⟨fun a ha => by rw [h a ha]; omega, fun a b ha _ => by rw [h a ha]; simp⟩
