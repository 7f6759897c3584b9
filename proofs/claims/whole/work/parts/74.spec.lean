/-! the answers, as the state and the arguments give them -/
noncomputable def ec_if {α : Type} (P : Prop) (x y : α) : α := @ite α P (Classical.propDecidable P) x y
theorem ec_if_t {α : Type} {P : Prop} {x y : α} (h : P) : ec_if P x y = x := if_pos h
theorem ec_if_f {α : Type} {P : Prop} {x y : α} (h : ¬ P) : ec_if P x y = y := if_neg h
def ec_hs (n : Nat) (v : Int32) : Prop := 0 ≤ v.toInt ∧ v.toInt < n
def ec_n (v : Int32) : Nat := v.toInt.toNat
theorem ec_n_nI {i : Nat} (h : i < 2 ^ 31) : ec_n (nI i) = i := by unfold ec_n; rw [nI_toInt h]; omega
theorem ec_ofI {v : Int32} {n : Nat} (h : 0 ≤ v.toInt ∧ v.toInt < n) : ∃ i, i < n ∧ i < 2 ^ 31 ∧ v = nI i := by
  have b := ec_bd v
  refine ⟨v.toInt.toNat, by omega, by omega, ?_⟩
  apply Int32.toInt_inj.mp
  rw [nI_toInt (by omega)]
  omega
theorem ec_hs_nI {i n : Nat} (h : i < n) (h2 : i < 2 ^ 31) : ec_hs n (nI i) := by unfold ec_hs; rw [nI_toInt h2]; omega
def ec_nr2 (vx vy : Int32) : Prop := ec_near vx ∧ ec_near vy
abbrev ec_V : Type := Nat × (Nat → Int32) × (Nat → Int32)
abbrev ec_G3 : Type := Nat × (Nat → Nat) × (Nat → Nat)
def ec_onL (px py : Nat → Int32) (lf lt : Nat → Nat) (vx vy : Int32) (t : Nat) : Prop := ec_on (px (lf t)).toInt (py (lf t)).toInt (px (lt t)).toInt (py (lt t)).toInt vx.toInt vy.toInt
noncomputable def ec_vertF (pn : Nat) (px py : Nat → Int32) (ln : Nat) (lf lt : Nat → Nat) (vx vy : Int32) : Int32 × ec_V :=
  ec_if (¬ ec_nr2 vx vy) (-2, pn, px, py)
    (@dite (Int32 × ec_V) (∃ v, v < pn ∧ px v = vx ∧ py v = vy) (Classical.propDecidable _) (fun h => (nI (Classical.choose h), pn, px, py)) (fun _ =>
      ec_if (12 ≤ pn) (-3, pn, px, py) (ec_if (∃ t, t < ln ∧ ec_onL px py lf lt vx vy t) (-4, pn, px, py) (nI pn, pn + 1, upd px pn vx, upd py pn vy))))
section
variable {pn : Nat} {px py : Nat → Int32} {ln : Nat} {lf lt lr : Nat → Nat} {vx vy : Int32}
theorem ec_vertF_far (h : ¬ ec_nr2 vx vy) : ((-2 : Int32), (pn, px, py)) = ec_vertF pn px py ln lf lt vx vy := by unfold ec_vertF; rw [ec_if_t h]
theorem ec_vertF_at (h : ec_nr2 vx vy) (inj : ge_InjXY pn (fun i => (px i).toInt) (fun i => (py i).toInt)) {v : Nat} (hv : v < pn) (h1 : px v = vx) (h2 : py v = vy) : (nI v, (pn, px, py)) = ec_vertF pn px py ln lf lt vx vy := by
  unfold ec_vertF
  rw [ec_if_f (fun q => q h), dif_pos ⟨v, hv, h1, h2⟩]
  have c := Classical.choose_spec (⟨v, hv, h1, h2⟩ : ∃ v, v < pn ∧ px v = vx ∧ py v = vy)
  have : v = Classical.choose (⟨v, hv, h1, h2⟩ : ∃ v, v < pn ∧ px v = vx ∧ py v = vy) := inj _ _ hv c.1 (congrArg Int32.toInt (h1.trans c.2.1.symm)) (congrArg Int32.toInt (h2.trans c.2.2.symm))
  rw [← this]
theorem ec_vertF_full (h : ec_nr2 vx vy) (hn : ¬ ∃ v, v < pn ∧ px v = vx ∧ py v = vy) (h12 : 12 ≤ pn) : ((-3 : Int32), (pn, px, py)) = ec_vertF pn px py ln lf lt vx vy := by
  unfold ec_vertF; rw [ec_if_f (fun q => q h), dif_neg hn, ec_if_t h12]
theorem ec_vertF_on (h : ec_nr2 vx vy) (hn : ¬ ∃ v, v < pn ∧ px v = vx ∧ py v = vy) (h12 : ¬ 12 ≤ pn) (ho : ∃ t, t < ln ∧ ec_onL px py lf lt vx vy t) : ((-4 : Int32), (pn, px, py)) = ec_vertF pn px py ln lf lt vx vy := by
  unfold ec_vertF; rw [ec_if_f (fun q => q h), dif_neg hn, ec_if_f h12, ec_if_t ho]
theorem ec_vertF_new (h : ec_nr2 vx vy) (hn : ¬ ∃ v, v < pn ∧ px v = vx ∧ py v = vy) (h12 : ¬ 12 ≤ pn) (ho : ¬ ∃ t, t < ln ∧ ec_onL px py lf lt vx vy t) : (nI pn, (pn + 1, upd px pn vx, upd py pn vy)) = ec_vertF pn px py ln lf lt vx vy := by
  unfold ec_vertF; rw [ec_if_f (fun q => q h), dif_neg hn, ec_if_f h12, ec_if_f ho]
theorem ec_P_congr {px' py' : Nat → Int32} {i : Nat} (h1 : px' i = px i) (h2 : py' i = py i) : ec_P px' py' i = ec_P px py i := by
  unfold ec_P ge_PP ge_lift
  dsimp only
  rw [h1, h2]
theorem ec_upd_ne {α : Type} {f : Nat → Int32} {n i : Nat} {v : Int32} (h : i < n) : upd f n v i = f i := by
  unfold upd; rw [if_neg (by omega)]
theorem ec_upd_self {f : Nat → Int32} {n : Nat} {v : Int32} : upd f n v n = v := by
  unfold upd; rw [if_pos rfl]
/-- a vertex more keeps what holds of the state -/
theorem ec_SI_new (gS : ec_SI pn px py ln lf lt lr) (h : ec_nr2 vx vy) (hn : ¬ ∃ v, v < pn ∧ px v = vx ∧ py v = vy) (h12 : ¬ 12 ≤ pn) (ho : ¬ ∃ t, t < ln ∧ ec_onL px py lf lt vx vy t) : ec_SI (pn + 1) (upd px pn vx) (upd py pn vy) ln lf lt lr := by
  obtain ⟨s1, s2, s3, s4, s5, s6, s7⟩ := gS
  have ex : ∀ i, i < pn → upd px pn vx i = px i := fun i hi => ec_upd_ne (α := Nat) hi
  have ey : ∀ i, i < pn → upd py pn vy i = py i := fun i hi => ec_upd_ne (α := Nat) hi
  have eP : ∀ i, i < pn → ec_P (upd px pn vx) (upd py pn vy) i = ec_P px py i := fun i hi => ec_P_congr (ex i hi) (ey i hi)
  refine ⟨by omega, fun i hi => ?_, fun i j hi hj q1 q2 => ?_, s4, ?_, s6, s7⟩
  · by_cases e : i = pn
    · subst e; rw [ec_upd_self, ec_upd_self]; exact h
    · rw [ex i (by omega), ey i (by omega)]; exact s2 i (by omega)
  · by_cases e : i = pn <;> by_cases e' : j = pn
    · omega
    · subst e
      have q1' : (upd px i vx i).toInt = (upd px i vx j).toInt := q1
      have q2' : (upd py i vy i).toInt = (upd py i vy j).toInt := q2
      rw [ec_upd_self, ex j (by omega), Int32.toInt_inj] at q1'
      rw [ec_upd_self, ey j (by omega), Int32.toInt_inj] at q2'
      exact absurd ⟨j, by omega, q1'.symm, q2'.symm⟩ hn
    · subst e'
      have q1' : (upd px j vx i).toInt = (upd px j vx j).toInt := q1
      have q2' : (upd py j vy i).toInt = (upd py j vy j).toInt := q2
      rw [ec_upd_self, ex i (by omega), Int32.toInt_inj] at q1'
      rw [ec_upd_self, ey i (by omega), Int32.toInt_inj] at q2'
      exact absurd ⟨i, by omega, q1', q2'⟩ hn
    · have q1' : (upd px pn vx i).toInt = (upd px pn vx j).toInt := q1
      have q2' : (upd py pn vy i).toInt = (upd py pn vy j).toInt := q2
      rw [ex i (by omega), ex j (by omega)] at q1'
      rw [ey i (by omega), ey j (by omega)] at q2'
      exact s3 i j (by omega) (by omega) q1' q2'
  · refine ge_Pre.mk (fun q => ?_) (fun q => s5.ne q) (fun q => s5.symm q) (fun {x y} q => ?_) (fun {x y z w} q q' => ?_)
    · have := s5.lt q; omega
    · intro v hv h1 h2 hb
      have l := s5.lt q
      rw [eP x (by omega), eP y (by omega)] at hb
      by_cases e : v = pn
      · subst e
        obtain ⟨t, ht, k⟩ := q
        refine ho ⟨t, ht, ?_⟩
        have hb' := (ec_btw_on _ _ x y v).mp (show ge_Btw (ec_P (upd px v vx) (upd py v vy) x) (ec_P (upd px v vx) (upd py v vy) y) (ec_P (upd px v vx) (upd py v vy) v) by rw [eP x (by omega), eP y (by omega)]; exact hb)
        rw [ex x (by omega), ey x (by omega), ex y (by omega), ey y (by omega), ec_upd_self, ec_upd_self] at hb'
        unfold ec_onL
        rcases k with ⟨rfl, rfl⟩ | ⟨rfl, rfl⟩
        · exact hb'
        · obtain ⟨a1, a2, a3, a4, a5⟩ := hb'
          refine ⟨?_, by omega, by omega, by omega, by omega⟩
          unfold ec_lf at a1 ⊢
          grind
      · rw [eP v (by omega)] at hb
        exact s5.clear q v (by omega) h1 h2 hb
    · have l := s5.lt q
      have l' := s5.lt q'
      rw [eP x (by omega), eP y (by omega), eP z (by omega), eP w (by omega)]
      exact s5.cross q q'
theorem ec_vertF_SI (gS : ec_SI pn px py ln lf lt lr) {r : Int32} {u : ec_V} (h : (r, u) = ec_vertF pn px py ln lf lt vx vy) : ec_SI u.1 u.2.1 u.2.2 ln lf lt lr ∧ pn ≤ u.1 := by
  unfold ec_vertF at h
  by_cases h1 : ec_nr2 vx vy
  · rw [ec_if_f (fun q => q h1)] at h
    by_cases h2 : ∃ v, v < pn ∧ px v = vx ∧ py v = vy
    · rw [dif_pos h2] at h; cases h; exact ⟨gS, Nat.le_refl _⟩
    · rw [dif_neg h2] at h
      by_cases h3 : 12 ≤ pn
      · rw [ec_if_t h3] at h; cases h; exact ⟨gS, Nat.le_refl _⟩
      · rw [ec_if_f h3] at h
        by_cases h4 : ∃ t, t < ln ∧ ec_onL px py lf lt vx vy t
        · rw [ec_if_t h4] at h; cases h; exact ⟨gS, Nat.le_refl _⟩
        · rw [ec_if_f h4] at h; cases h; exact ⟨ec_SI_new gS h1 h2 h3 h4, by omega⟩
  · rw [ec_if_t h1] at h; cases h; exact ⟨gS, Nat.le_refl _⟩
end
def ec_btwN (pn : Nat) (px py : Nat → Int32) (i j : Nat) : Prop := ∃ v, v < pn ∧ v ≠ i ∧ v ≠ j ∧ ge_Btw (ec_P px py i) (ec_P px py j) (ec_P px py v)
def ec_crN (px py : Nat → Int32) (ln : Nat) (lf lt : Nat → Nat) (i j : Nat) : Prop := ∃ t, t < ln ∧ ge_Cr (ec_P px py i) (ec_P px py j) (ec_P px py (lf t)) (ec_P px py (lt t))
noncomputable def ec_segF (pn : Nat) (px py : Nat → Int32) (ln : Nat) (lf lt : Nat → Nat) (v w : Int32) : Int32 × ec_G3 :=
  ec_if (¬ ec_hs pn v ∨ ¬ ec_hs pn w ∨ v = w) (-2, ln, lf, lt) (ec_if (ec_E ln lf lt (ec_n v) (ec_n w) ∨ 10 ≤ ln) (-3, ln, lf, lt) (ec_if (ec_btwN pn px py (ec_n v) (ec_n w)) (-4, ln, lf, lt)
    (ec_if (ec_crN px py ln lf lt (ec_n v) (ec_n w)) (-5, ln, lf, lt) (nI ln, ln + 1, va_up lf ln (ec_n v), va_up lt ln (ec_n w)))))
section
variable {pn : Nat} {px py : Nat → Int32} {ln : Nat} {lf lt lr : Nat → Nat} {v w : Int32} {i j : Nat}
theorem ec_segF_arg (h : ¬ ec_hs pn v ∨ ¬ ec_hs pn w ∨ v = w) : ((-2 : Int32), (ln, lf, lt)) = ec_segF pn px py ln lf lt v w := by unfold ec_segF; rw [ec_if_t h]
theorem ec_segF_ok (hi : i < pn) (hj : j < pn) (g12 : pn ≤ 12) (hne : ¬ nI i = nI j) : ¬ (¬ ec_hs pn (nI i) ∨ ¬ ec_hs pn (nI j) ∨ nI i = nI j) := by
  rintro (q | q | q)
  · exact q (ec_hs_nI hi (by omega))
  · exact q (ec_hs_nI hj (by omega))
  · exact hne q
theorem ec_segF_num (hi : i < pn) (hj : j < pn) (g12 : pn ≤ 12) (hne : ¬ nI i = nI j) (h : ec_E ln lf lt i j ∨ 10 ≤ ln) : ((-3 : Int32), (ln, lf, lt)) = ec_segF pn px py ln lf lt (nI i) (nI j) := by
  unfold ec_segF; rw [ec_if_f (ec_segF_ok hi hj g12 hne), ec_n_nI (by omega), ec_n_nI (by omega), ec_if_t h]
theorem ec_segF_btw (hi : i < pn) (hj : j < pn) (g12 : pn ≤ 12) (hne : ¬ nI i = nI j) (h : ¬ (ec_E ln lf lt i j ∨ 10 ≤ ln)) (h2 : ec_btwN pn px py i j) : ((-4 : Int32), (ln, lf, lt)) = ec_segF pn px py ln lf lt (nI i) (nI j) := by
  unfold ec_segF; rw [ec_if_f (ec_segF_ok hi hj g12 hne), ec_n_nI (by omega), ec_n_nI (by omega), ec_if_f h, ec_if_t h2]
theorem ec_segF_cr (hi : i < pn) (hj : j < pn) (g12 : pn ≤ 12) (hne : ¬ nI i = nI j) (h : ¬ (ec_E ln lf lt i j ∨ 10 ≤ ln)) (h2 : ¬ ec_btwN pn px py i j) (h3 : ec_crN px py ln lf lt i j) : ((-5 : Int32), (ln, lf, lt)) = ec_segF pn px py ln lf lt (nI i) (nI j) := by
  unfold ec_segF; rw [ec_if_f (ec_segF_ok hi hj g12 hne), ec_n_nI (by omega), ec_n_nI (by omega), ec_if_f h, ec_if_f h2, ec_if_t h3]
theorem ec_segF_new (hi : i < pn) (hj : j < pn) (g12 : pn ≤ 12) (hne : ¬ nI i = nI j) (h : ¬ (ec_E ln lf lt i j ∨ 10 ≤ ln)) (h2 : ¬ ec_btwN pn px py i j) (h3 : ¬ ec_crN px py ln lf lt i j) : (nI ln, (ln + 1, va_up lf ln i, va_up lt ln j)) = ec_segF pn px py ln lf lt (nI i) (nI j) := by
  unfold ec_segF; rw [ec_if_f (ec_segF_ok hi hj g12 hne), ec_n_nI (by omega), ec_n_nI (by omega), ec_if_f h, ec_if_f h2, ec_if_f h3]
theorem ec_SI_seg (gS : ec_SI pn px py ln lf lt lr) (hi : i < pn) (hj : j < pn) (hne : ¬ nI i = nI j) (h : ¬ (ec_E ln lf lt i j ∨ 10 ≤ ln)) (h2 : ¬ ec_btwN pn px py i j) (h3 : ¬ ec_crN px py ln lf lt i j) :
    ec_SI pn px py (ln + 1) (va_up lf ln i) (va_up lt ln j) (va_up (va_up lr i (lr i ||| 2 ^ j)) j (va_up lr i (lr i ||| 2 ^ j) j ||| 2 ^ i)) := by
  obtain ⟨s1, s2, s3, s4, s5, s6, s7⟩ := gS
  have hij : i ≠ j := fun q => hne (by rw [q])
  refine ⟨s1, s2, s3, by omega, ?_, ec_once_add s6 (fun q => h (Or.inl q)), ?_⟩
  · have e : ec_E (ln + 1) (va_up lf ln i) (va_up lt ln j) = ge_addE (ec_E ln lf lt) i j := by
      funext x y; exact propext (ec_E_add x y)
    rw [e]
    exact s5.add hi hj hij (ec_clear h2) (ec_nocross h3)
  · exact ec_R_iff (ec_R_add2 s7 (by omega) (by omega) hij) (fun x y => (ec_E_add x y).symm)
end
noncomputable def ec_holF (hn : Nat) (qx qy : Nat → Int32) (vx vy : Int32) : Int32 × ec_V := ec_if (¬ ec_nr2 vx vy) (-2, hn, qx, qy) (ec_if (3 ≤ hn) (-3, hn, qx, qy) (nI (hn + 1), hn + 1, upd qx hn vx, upd qy hn vy))
section
variable {hn : Nat} {qx qy : Nat → Int32} {vx vy : Int32}
theorem ec_holF_far (h : ¬ ec_nr2 vx vy) : ((-2 : Int32), (hn, qx, qy)) = ec_holF hn qx qy vx vy := by unfold ec_holF; rw [ec_if_t h]
theorem ec_holF_full (h : ec_nr2 vx vy) (h3 : 3 ≤ hn) : ((-3 : Int32), (hn, qx, qy)) = ec_holF hn qx qy vx vy := by unfold ec_holF; rw [ec_if_f (fun q => q h), ec_if_t h3]
theorem ec_holF_new (h : ec_nr2 vx vy) (h3 : ¬ 3 ≤ hn) : (nI (hn + 1), (hn + 1, upd qx hn vx, upd qy hn vy)) = ec_holF hn qx qy vx vy := by unfold ec_holF; rw [ec_if_f (fun q => q h), ec_if_f h3]
theorem ec_holF_le (g3 : hn ≤ 3) {r : Int32} {u : ec_V} (h : (r, u) = ec_holF hn qx qy vx vy) : u.1 ≤ 3 := by
  unfold ec_holF at h
  by_cases h1 : ec_nr2 vx vy
  · rw [ec_if_f (fun q => q h1)] at h
    by_cases h2 : 3 ≤ hn
    · rw [ec_if_t h2] at h; cases h; exact g3
    · rw [ec_if_f h2] at h; cases h; show hn + 1 ≤ 3; omega
  · rw [ec_if_t h1] at h; cases h; exact g3
end
noncomputable def ec_turF (pn : Nat) (px py : Nat → Int32) (v w z : Int32) : Int32 := ec_if (ec_hs pn v ∧ ec_hs pn w ∧ ec_hs pn z) (ec_sgn (ge_ori (ec_P px py (ec_n v)) (ec_P px py (ec_n w)) (ec_P px py (ec_n z)))) 2
noncomputable def ec_cirF (pn : Nat) (px py : Nat → Int32) (v w z d : Int32) : Int32 :=
  ec_if ((ec_hs pn v ∧ ec_hs pn w ∧ ec_hs pn z ∧ ec_hs pn d) ∧ ge_ori (ec_P px py (ec_n v)) (ec_P px py (ec_n w)) (ec_P px py (ec_n z)) ≠ 0) (ec_sgn (ge_ori (ec_P px py (ec_n v)) (ec_P px py (ec_n w)) (ec_P px py (ec_n z))) * ec_sgn (ec_circ px py (ec_n v) (ec_n w) (ec_n z) (ec_n d))) 2
section
variable {pn : Nat} {px py : Nat → Int32} {v w z d : Int32} {i j k i4 : Nat}
theorem ec_turF_no (h : ¬ (ec_hs pn v ∧ ec_hs pn w ∧ ec_hs pn z)) : nI 2 = ec_turF pn px py v w z := by unfold ec_turF; rw [ec_if_f h]; decide
theorem ec_turF_yes (g12 : pn ≤ 12) (hi : i < pn) (hj : j < pn) (hk : k < pn) : ec_turF pn px py (nI i) (nI j) (nI k) = ec_sgn (ge_ori (ec_P px py i) (ec_P px py j) (ec_P px py k)) := by
  unfold ec_turF; rw [ec_if_t ⟨ec_hs_nI hi (by omega), ec_hs_nI hj (by omega), ec_hs_nI hk (by omega)⟩, ec_n_nI (by omega), ec_n_nI (by omega), ec_n_nI (by omega)]
theorem ec_cirF_no (h : ¬ (ec_hs pn v ∧ ec_hs pn w ∧ ec_hs pn z ∧ ec_hs pn d)) : nI 2 = ec_cirF pn px py v w z d := by unfold ec_cirF; rw [ec_if_f (fun q => h q.1)]; decide
theorem ec_cirF_zero (g12 : pn ≤ 12) (hi : i < pn) (hj : j < pn) (hk : k < pn) (h0 : ge_ori (ec_P px py i) (ec_P px py j) (ec_P px py k) = 0) : nI 2 = ec_cirF pn px py (nI i) (nI j) (nI k) d := by
  unfold ec_cirF; rw [ec_n_nI (by omega), ec_n_nI (by omega), ec_n_nI (by omega), ec_if_f (fun q => q.2 h0)]; decide
theorem ec_cirF_yes (g12 : pn ≤ 12) (hi : i < pn) (hj : j < pn) (hk : k < pn) (hd : i4 < pn) (h0 : ge_ori (ec_P px py i) (ec_P px py j) (ec_P px py k) ≠ 0) :
    ec_cirF pn px py (nI i) (nI j) (nI k) (nI i4) = ec_sgn (ge_ori (ec_P px py i) (ec_P px py j) (ec_P px py k)) * ec_sgn (ec_circ px py i j k i4) := by
  unfold ec_cirF
  rw [ec_n_nI (by omega), ec_n_nI (by omega), ec_n_nI (by omega), ec_n_nI (by omega), ec_if_t ⟨⟨ec_hs_nI hi (by omega), ec_hs_nI hj (by omega), ec_hs_nI hk (by omega), ec_hs_nI hd (by omega)⟩, h0⟩]
end
/-! reads of the numbered triangles -/
def ec_hc (mn : Nat) (v w : Int32) : Prop := 0 ≤ v.toInt ∧ v.toInt < mn ∧ 0 ≤ w.toInt ∧ w.toInt ≤ 2
theorem ec_ofHC {mn : Nat} {v w : Int32} (h : ec_hc mn v w) : ∃ t k, t < mn ∧ t < 2 ^ 31 ∧ k < 3 ∧ v = nI t ∧ w = nI k := by
  obtain ⟨t, h1, h2, h3⟩ := ec_ofI (v := v) (n := mn) ⟨h.1, h.2.1⟩
  obtain ⟨k, k1, k2, k3⟩ := ec_ofI (v := w) (n := 3) ⟨h.2.2.1, by have := h.2.2.2; omega⟩
  exact ⟨t, k, h1, h2, k1, h3, k3⟩
theorem ec_hc_nI {mn t k : Nat} (ht : t < mn) (h2 : t < 2 ^ 31) (hk : k < 3) : ec_hc mn (nI t) (nI k) := by
  unfold ec_hc; rw [nI_toInt h2, nI_toInt (by omega)]; omega
noncomputable def ec_corF (mn : Nat) (mc : Nat → Nat) (v w : Int32) : Int32 := ec_if (ec_hc mn v w) (nI (mc (3 * ec_n v + ec_n w))) (-1)
noncomputable def ec_own (mn : Nat) (mc : Nat → Nat) (x y : Nat) : Option Nat := @dite (Option Nat) (∃ t, t < mn ∧ ec_side mc t x y) (Classical.propDecidable _) (fun h => some (Classical.choose h)) (fun _ => none)
noncomputable def ec_acr (mn : Nat) (mc : Nat → Nat) (t k : Nat) : Option Nat := ec_own mn mc (mc (3 * t + ec_nx k)) (mc (3 * t + k))
noncomputable def ec_acrF (mn : Nat) (mc : Nat → Nat) (v w : Int32) : Int32 := ec_if (ec_hc mn v w) (ec_oi (ec_acr mn mc (ec_n v) (ec_n w))) (-1)
def ec_fst (n : Nat) (S : Nat → Prop) (o : Option Nat) : Prop := (∀ t, o = some t → t < n ∧ S t ∧ ∀ s, s < t → ¬ S s) ∧ (o = none → ∀ t, t < n → ¬ S t)
theorem ec_fst_u {n : Nat} {S S' : Nat → Prop} {o o' : Option Nat} (e : ∀ t, t < n → (S t ↔ S' t)) (h : ec_fst n S o) (h' : ec_fst n S' o') : o = o' := by
  cases o with
  | none =>
    cases o' with
    | none => rfl
    | some t => have := h'.1 t rfl; exact absurd ((e t this.1).mpr this.2.1) (h.2 rfl t this.1)
  | some t =>
    have a := h.1 t rfl
    cases o' with
    | none => exact absurd ((e t a.1).mp a.2.1) (h'.2 rfl t a.1)
    | some u =>
      have b := h'.1 u rfl
      rcases Nat.lt_trichotomy t u with q | q | q
      · exact absurd ((e t a.1).mp a.2.1) (b.2.2 t q)
      · rw [q]
      · exact absurd ((e u b.1).mpr b.2.1) (a.2.2 u q)
noncomputable def ec_degF (pn mn : Nat) (mc : Nat → Nat) (v : Int32) : Int32 := ec_if (ec_hs pn v) (nI (ec_deg mc v (3 * mn))) (-1)
def ec_sumL (f : Nat → Int) : Nat → Int64
  | 0 => 0
  | t + 1 => ec_sumL f t + Int64.ofInt (f t)
def ec_arT (px py : Nat → Int32) (mc : Nat → Nat) (t : Nat) : Int := ec_lf (px (mc (3 * t + 0))).toInt (py (mc (3 * t + 0))).toInt (px (mc (3 * t + 1))).toInt (py (mc (3 * t + 1))).toInt (px (mc (3 * t + 2))).toInt (py (mc (3 * t + 2))).toInt
theorem ec_L_of {r : Int64} {z : Int} (h : r.toInt = z) : r = Int64.ofInt z := by rw [← h, Int64.ofInt_toInt]
noncomputable def ec_plaF (pn : Nat) (px py : Nat → Int32) (v w : Int32) : Int32 := ec_if (ec_hs pn v) (ec_if (w = 0) (px (ec_n v)) (ec_if (w = 1) (py (ec_n v)) 0)) 0
noncomputable def ec_bor (mn : Nat) (mc : Nat → Nat) : Nat → Nat
  | 0 => 0
  | k + 1 => ec_bor mn mc k + ec_if (ec_acr mn mc (k / 3) (k % 3) = none) 1 0
/-- two numbered triangles share no side -/
def ec_uqs (mn : Nat) (mc : Nat → Nat) : Prop := ∀ t u x y, t < mn → u < mn → ec_side mc t x y → ec_side mc u x y → t = u
section
variable {mn : Nat} {mc : Nat → Nat}
theorem ec_own_some (hu : ec_uqs mn mc) {t x y : Nat} (ht : t < mn) (s : ec_side mc t x y) : ec_own mn mc x y = some t := by
  unfold ec_own
  rw [dif_pos ⟨t, ht, s⟩]
  have c := Classical.choose_spec (⟨t, ht, s⟩ : ∃ t, t < mn ∧ ec_side mc t x y)
  rw [hu _ t x y c.1 ht c.2 s]
theorem ec_own_none {x y : Nat} (h : ∀ t, t < mn → ¬ ec_side mc t x y) : ec_own mn mc x y = none := by
  unfold ec_own
  rw [dif_neg (fun ⟨t, ht, s⟩ => h t ht s)]
theorem ec_own_Ow {mo : Nat → Option Nat} (ow : ec_Ow mn mc mo) {x y : Nat} (hx : x < 12) (hy : y < 12) (hu : ec_uqs mn mc) : mo (x * 12 + y) = ec_own mn mc x y := by
  cases e : mo (x * 12 + y) with
  | none =>
    rw [ec_own_none]
    intro t ht s
    have := (ow x y hx hy t).mpr ⟨ht, s⟩
    rw [e] at this; cases this
  | some t =>
    have := (ow x y hx hy t).mp e
    rw [ec_own_some hu this.1 this.2]
theorem ec_uqs_Ow {pn : Nat} {mo : Nat → Option Nat} (ow : ec_Ow mn mc mo) (p12 : pn ≤ 12) (hb : ∀ i, i < 3 * mn → mc i < pn) : ec_uqs mn mc := by
  intro t u x y ht hu s s'
  have b : x < 12 ∧ y < 12 := by
    have h0 := hb (3 * t) (by omega)
    have h1 := hb (3 * t + 1) (by omega)
    have h2 := hb (3 * t + 2) (by omega)
    rcases s with ⟨rfl, rfl⟩ | ⟨rfl, rfl⟩ | ⟨rfl, rfl⟩ <;> omega
  have e1 := (ow x y b.1 b.2 t).mpr ⟨ht, s⟩
  have e2 := (ow x y b.1 b.2 u).mpr ⟨hu, s'⟩
  rw [e1] at e2; cases e2; rfl
theorem ec_bor3 (t : Nat) : ec_bor mn mc (3 * (t + 1)) = ec_bor mn mc (3 * t) + (ec_if (ec_acr mn mc t 0 = none) 1 0 + ec_if (ec_acr mn mc t 1 = none) 1 0 + ec_if (ec_acr mn mc t 2 = none) 1 0) := by
  show ec_bor mn mc (3 * t + 1 + 1 + 1) = _
  simp only [ec_bor]
  rw [show 3 * t / 3 = t by omega, show 3 * t % 3 = 0 by omega, show (3 * t + 1) / 3 = t by omega, show (3 * t + 1) % 3 = 1 by omega, show (3 * t + 1 + 1) / 3 = t by omega, show (3 * t + 1 + 1) % 3 = 2 by omega]
  omega
theorem ec_opn_bor {pn : Nat} {mo : Nat → Option Nat} {mr : Nat → Nat} (p12 : pn ≤ 12) (gM : ec_MI pn mn mc mo mr) : ∀ t, t ≤ mn → ec_opn mc mo t = ec_bor mn mc (3 * t) := by
  intro t
  induction t with
  | zero => intro _; rfl
  | succ t ih =>
    intro ht
    have hu := ec_uqs_Ow (gM.2.2.1 (by omega)) p12 gM.2.1
    rw [ec_bor3, ← ih (by omega)]
    have e : ∀ k, k < 3 → ec_bey mc mo t k = ec_acr mn mc t k := by
      intro k hk
      have a1 := gM.2.1 (3 * t + k) (by omega)
      have a2 := gM.2.1 (3 * t + ec_nx k) (by have := ec_nx_lt (k := k) (by omega); omega)
      exact ec_own_Ow (gM.2.2.1 (by omega)) (by omega) (by omega) hu
    have w : ∀ o : Option Nat, (if o = none then 1 else 0) = ec_if (o = none) 1 0 := by
      intro o
      by_cases q : o = none
      · rw [if_pos q, ec_if_t q]
      · rw [if_neg q, ec_if_f q]
    show ec_opn mc mo t + ec_op1 mc mo t = _
    unfold ec_op1
    rw [e 0 (by omega), e 1 (by omega), e 2 (by omega), w, w, w]
theorem ec_MI_bor {pn : Nat} {mo : Nat → Option Nat} {mr : Nat → Nat} (p12 : pn ≤ 12) (gM : ec_MI pn mn mc mo mr) : ec_opn mc mo mn = ec_bor mn mc (3 * mn) := ec_opn_bor p12 gM mn (Nat.le_refl _)
end
theorem ec_near_lo {v : Int32} (h : v < -1000000) : ¬ ec_near v := by
  rw [Int32.lt_iff_toInt_lt, show (-1000000 : Int32).toInt = -1000000 by decide] at h
  unfold ec_near; omega
theorem ec_near_hi {v : Int32} (h : (1000000 : Int32) < v) : ¬ ec_near v := by
  rw [Int32.lt_iff_toInt_lt, show (1000000 : Int32).toInt = 1000000 by decide] at h
  unfold ec_near; omega
theorem ec_near_in {v : Int32} (h1 : ¬ v < -1000000) (h2 : ¬ (1000000 : Int32) < v) : ec_near v := by
  rw [Int32.lt_iff_toInt_lt, show (-1000000 : Int32).toInt = -1000000 by decide] at h1
  rw [Int32.lt_iff_toInt_lt, show (1000000 : Int32).toInt = 1000000 by decide] at h2
  unfold ec_near; omega
section
variable {pn : Nat} {px py : Nat → Int32} {mn : Nat} {mc : Nat → Nat} {v w : Int32} {t k i : Nat}
theorem ec_corF_n (h : ¬ ec_hc mn v w) : (-1 : Int32) = ec_corF mn mc v w := by unfold ec_corF; rw [ec_if_f h]
theorem ec_corF_y (ht : t < mn) (ht2 : t < 2 ^ 31) (hk : k < 3) : nI (mc (3 * t + k)) = ec_corF mn mc (nI t) (nI k) := by unfold ec_corF; rw [ec_if_t (ec_hc_nI ht ht2 hk), ec_n_nI ht2, ec_n_nI (by omega)]
theorem ec_acrF_n (h : ¬ ec_hc mn v w) : (-1 : Int32) = ec_acrF mn mc v w := by unfold ec_acrF; rw [ec_if_f h]
theorem ec_acrF_y (ht : t < mn) (ht2 : t < 2 ^ 31) (hk : k < 3) {o : Option Nat} (e : o = ec_acr mn mc t k) : ec_oi o = ec_acrF mn mc (nI t) (nI k) := by unfold ec_acrF; rw [ec_if_t (ec_hc_nI ht ht2 hk), ec_n_nI ht2, ec_n_nI (by omega), e]
theorem ec_degF_n (h : ¬ ec_hs pn v) : (-1 : Int32) = ec_degF pn mn mc v := by unfold ec_degF; rw [ec_if_f h]
theorem ec_degF_y (h : ec_hs pn v) : nI (ec_deg mc v (3 * mn)) = ec_degF pn mn mc v := by unfold ec_degF; rw [ec_if_t h]
theorem ec_nI1 : nI 1 = 1 := by decide
theorem ec_plaF_n (h : ¬ ec_hs pn v) : nI 0 = ec_plaF pn px py v w := by unfold ec_plaF; rw [ec_if_f h]; decide
theorem ec_plaF_0 (hi : i < pn) (hi2 : i < 2 ^ 31) (h : w = 0) : px i = ec_plaF pn px py (nI i) w := by unfold ec_plaF; rw [ec_if_t (ec_hs_nI hi hi2), ec_if_t h, ec_n_nI hi2]
theorem ec_plaF_1 (hi : i < pn) (hi2 : i < 2 ^ 31) (h : w = nI 1) : py i = ec_plaF pn px py (nI i) w := by unfold ec_plaF; rw [ec_if_t (ec_hs_nI hi hi2), ec_if_f (by rw [h]; decide), ec_if_t (by rw [h]; decide), ec_n_nI hi2]
theorem ec_plaF_2 (h0 : ¬ w = 0) (h1 : ¬ w = nI 1) : nI 0 = ec_plaF pn px py v w := by
  unfold ec_plaF
  rw [ec_nI1] at h1
  by_cases h : ec_hs pn v
  · rw [ec_if_t h, ec_if_f h0, ec_if_f h1]; decide
  · rw [ec_if_f h]; decide
end
