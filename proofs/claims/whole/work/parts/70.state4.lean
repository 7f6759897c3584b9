/-! numbering the full mesh -/
def ec_CM (T : Nat → Nat → Nat → Prop) (vn : Nat) (vc : Nat → Nat) (vo : Nat → Option Nat) (vk : Nat → Prop) (m : Nat) : Prop := ec_En T vn vc m ∧ ec_Ow vn vc vo ∧ (∀ t, t < vn → ¬ vk t) ∧ vn ≤ 19
theorem ec_tc_lo {c : Nat → Nat} {n i j k t : Nat} (h : t < 3 * n) : ec_tc c n i j k t = c t := by
  unfold ec_tc
  rw [va_up_ne _ _ (by omega), va_up_ne _ _ (by omega), va_up_ne _ _ (by omega)]
theorem ec_tc_0 {c : Nat → Nat} {n i j k : Nat} : ec_tc c n i j k (3 * n) = i := by
  unfold ec_tc
  rw [va_up_ne _ _ (by omega), va_up_ne _ _ (by omega), va_up_self]
theorem ec_tc_1 {c : Nat → Nat} {n i j k : Nat} : ec_tc c n i j k (3 * n + 1) = j := by
  unfold ec_tc
  rw [va_up_ne _ _ (by omega), va_up_self]
theorem ec_tc_2 {c : Nat → Nat} {n i j k : Nat} : ec_tc c n i j k (3 * n + 2) = k := by
  unfold ec_tc
  rw [va_up_self]
theorem ec_En_side {T : Nat → Nat → Nat → Prop} (rot : ∀ a b c, T a b c → T b c a) {k m : Nat} {c : Nat → Nat} (h : ec_En T k c m) {t x y : Nat} (ht : t < k) (s : ec_side c t x y) : ∃ z, T x y z ∧ ((c (3 * t) = x ∧ c (3 * t + 1) = y ∧ c (3 * t + 2) = z) ∨ (c (3 * t) = z ∧ c (3 * t + 1) = x ∧ c (3 * t + 2) = y) ∨ (c (3 * t) = y ∧ c (3 * t + 1) = z ∧ c (3 * t + 2) = x)) := by
  have q := (h.1 t ht).1
  rcases s with ⟨rfl, rfl⟩ | ⟨rfl, rfl⟩ | ⟨rfl, rfl⟩
  · exact ⟨_, q, Or.inl ⟨rfl, rfl, rfl⟩⟩
  · exact ⟨_, rot _ _ _ q, Or.inr (Or.inl ⟨rfl, rfl, rfl⟩)⟩
  · exact ⟨_, rot _ _ _ (rot _ _ _ q), Or.inr (Or.inr ⟨rfl, rfl, rfl⟩)⟩
/-- a triangle that comes later shares no side with the earlier ones -/
theorem ec_En_new {T : Nat → Nat → Nat → Prop} (rot : ∀ a b c, T a b c → T b c a) (uni : ∀ a b c d, T a b c → T a b d → c = d) {k : Nat} {c : Nat → Nat} {x y z : Nat} (h : ec_En T k c (x * 12 + y)) (hT : T x y z) (hxy : x < y) (hxz : x < z) :
    ∀ t, t < k → ¬ ec_side c t x y ∧ ¬ ec_side c t y z ∧ ¬ ec_side c t z x := by
  intro t ht
  have g := h.1 t ht
  have main : ∀ a b d, T a b d → ec_side c t a b → ((a = x ∧ b = y ∧ d = z) ∨ (a = y ∧ b = z ∧ d = x) ∨ (a = z ∧ b = x ∧ d = y)) → False := by
    intro a b d q s e
    obtain ⟨w, h1, h2⟩ := ec_En_side rot h ht s
    have := uni _ _ _ _ h1 q
    omega
  exact ⟨fun s => main x y z hT s (Or.inl ⟨rfl, rfl, rfl⟩), fun s => main y z x (rot _ _ _ hT) s (Or.inr (Or.inl ⟨rfl, rfl, rfl⟩)), fun s => main z x y (rot _ _ _ (rot _ _ _ hT)) s (Or.inr (Or.inr ⟨rfl, rfl, rfl⟩))⟩
section
variable {pn : Nat} {px py : Nat → Int32} {ln : Nat} {lf lt lr : Nat → Nat} {th : Nat → Option Nat} {vn : Nat} {vc : Nat → Nat} {vo : Nat → Option Nat} {vk : Nat → Prop}
theorem ec_CM_0 {T : Nat → Nat → Nat → Prop} (h : ∀ j, j < 144 → vo j = none) : ec_CM T 0 vc vo vk 0 :=
  ⟨ec_En_nil _ _, fun x y hx hy t => by rw [h _ (by omega)]; exact ⟨fun q => (by cases q), fun q => by omega⟩, fun t ht => by omega, by omega⟩
theorem ec_FM.ne (gF : ec_FM pn px py ln lf lt th) {x y z : Nat} (k : ge_TF (ec_F th) x y z) : (x < pn ∧ y < pn ∧ z < pn) ∧ x ≠ y ∧ y ≠ z ∧ x ≠ z := by
  obtain ⟨_, M, _⟩ := ec_G_mesh gF.1 k
  exact ⟨M.lt k, M.ne k⟩
theorem ec_FM.rot (gF : ec_FM pn px py ln lf lt th) (x y z : Nat) (k : ge_TF (ec_F th) x y z) : ge_TF (ec_F th) y z x := by
  obtain ⟨_, M, _⟩ := ec_G_mesh gF.1 k
  exact M.rot k
theorem ec_FM.uni (gF : ec_FM pn px py ln lf lt th) (x y z w : Nat) (k : ge_TF (ec_F th) x y z) (k' : ge_TF (ec_F th) x y w) : z = w := by
  obtain ⟨_, M, _⟩ := ec_G_mesh gF.1 k
  exact M.uni k k'
theorem ec_CM_skip {T : Nat → Nat → Nat → Prop} {m m' : Nat} (h : ec_CM T vn vc vo vk m) (hm : m ≤ m') (hn : ∀ x y z, T x y z → x < y → x < z → m ≤ x * 12 + y → x * 12 + y < m' → False) : ec_CM T vn vc vo vk m' := ⟨ec_En_skip h.1 hm hn, h.2⟩
theorem ec_CM_i (gS : ec_SI pn px py ln lf lt lr) (gF : ec_FM pn px py ln lf lt th) {i : Nat} (h : ec_CM (ge_TF (ec_F th)) vn vc vo vk (i * 12)) (hi : i < pn) : ec_CM (ge_TF (ec_F th)) vn vc vo vk (i * 12 + (i + 1)) :=
  ec_CM_skip h (by omega) (fun x y z k h1 h2 h3 h4 => by have := (gF.ne k).1; have := gS.1; omega)
theorem ec_CM_row (gS : ec_SI pn px py ln lf lt lr) (gF : ec_FM pn px py ln lf lt th) {i j : Nat} (h : ec_CM (ge_TF (ec_F th)) vn vc vo vk (i * 12 + j)) (hj : pn ≤ j) (hj2 : j ≤ 12) : ec_CM (ge_TF (ec_F th)) vn vc vo vk ((i + 1) * 12) :=
  ec_CM_skip h (by omega) (fun x y z k h1 h2 h3 h4 => by have := (gF.ne k).1; have := gS.1; omega)
theorem ec_CM_no (gS : ec_SI pn px py ln lf lt lr) (gF : ec_FM pn px py ln lf lt th) {i j : Nat} (h : ec_CM (ge_TF (ec_F th)) vn vc vo vk (i * 12 + j)) (hi : i < pn) (hj : j < pn) (hn : ∀ z, th (i * 12 + j) = some z → z ≤ i) : ec_CM (ge_TF (ec_F th)) vn vc vo vk (i * 12 + (j + 1)) :=
  ec_CM_skip h (by omega) (fun x y z k h1 h2 h3 h4 => by
    have l := (gF.ne k).1; have h12 := gS.1
    have e1 : x = i := by omega
    have e2 : y = j := by omega
    subst e1; subst e2
    have := hn z (by rw [← ec_F_in (th := th) (x := x) (y := y) (by omega) (by omega)]; exact k)
    omega)
theorem ec_CM_fit (gS : ec_SI pn px py ln lf lt lr) (gF : ec_FM pn px py ln lf lt th) {k m : Nat} {c : Nat → Nat} (h : ec_En (ge_TF (ec_F th)) k c m) : k ≤ 19 := by
  have h1 := ec_En_count (n := pn) h (fun a b c q => (gF.ne q).1)
  rcases gF.1 with ⟨_, M, _⟩ | ⟨_, e⟩
  · have := M.count gS.inj gS.1 gS.el
    omega
  · apply Classical.byContradiction; intro q
    have := (h.1 0 (by omega)).1
    have z : ec_F th (c (3 * 0)) (c (3 * 0 + 1)) = some (c (3 * 0 + 2)) := this
    rw [e] at z; cases z
theorem ec_CM_add (gS : ec_SI pn px py ln lf lt lr) (gF : ec_FM pn px py ln lf lt th) {i j z : Nat} (h : ec_CM (ge_TF (ec_F th)) vn vc vo vk (i * 12 + j)) (hij : i < j) (hj : j < pn) (hz : th (i * 12 + j) = some z) (hiz : i < z) :
    vn < 19 ∧ ec_CM (ge_TF (ec_F th)) (vn + 1) (ec_tc vc vn i j z) (ec_to vo vn i j z) (va_up vk vn False) (i * 12 + (j + 1)) := by
  have h12 := gS.1
  have k : ge_TF (ec_F th) i j z := by show ec_F th i j = some z; rw [ec_F_in (by omega) (by omega)]; exact hz
  have l := gF.ne k
  have en : ec_En (ge_TF (ec_F th)) (vn + 1) (ec_tc vc vn i j z) (i * 12 + j + 1) :=
    ec_En_add h.1 k hij hiz rfl (fun x' y' z' q h1 h2 h3 => by
      have l' := (gF.ne q).1
      have e1 : x' = i := by omega
      have e2 : y' = j := by omega
      subst e1; subst e2
      exact ⟨rfl, rfl, gF.uni _ _ _ _ q k⟩) (fun t ht => ec_tc_lo ht) ec_tc_0 ec_tc_1 ec_tc_2
  have fit := ec_CM_fit gS gF en
  refine ⟨by omega, en, ?_, fun t ht => ?_, by omega⟩
  · exact ec_Ow_add h.2.1 (by omega) (by omega) (by omega) l.2.1 l.2.2.1 l.2.2.2 (ec_En_new gF.rot gF.uni h.1 k hij hiz) (fun t ht => ec_tc_lo ht) ec_tc_0 ec_tc_1 ec_tc_2
  · by_cases e : t = vn
    · subst e; rw [va_up_self]; exact fun q => q
    · rw [va_up_ne _ _ e]; exact h.2.2.1 t (by omega)
end
/-! marks by a table of reasons -/
def ec_MH (mn : Nat) (mk : Nat → Prop) (S : Nat → Nat → Prop) (g : Nat → Prop) (h t : Nat) : Prop := ∀ u, u < mn → (g u ↔ (mk u ∨ (∃ x, x < h ∧ S u x) ∨ (u < t ∧ S u h)))
section
variable {mn : Nat} {mk g : Nat → Prop} {S : Nat → Nat → Prop}
theorem ec_MH_0 : ec_MH mn mk S mk 0 0 := fun u _ => ⟨Or.inl, fun q => by rcases q with q | ⟨x, q, _⟩ | ⟨q, _⟩; exact q; omega; omega⟩
theorem ec_MH_no {h t : Nat} (k : ec_MH mn mk S g h t) (n : ¬ S t h) : ec_MH mn mk S g h (t + 1) := fun u hu => by
  rw [k u hu]
  constructor
  · rintro (q | q | ⟨q1, q2⟩)
    · exact Or.inl q
    · exact Or.inr (Or.inl q)
    · exact Or.inr (Or.inr ⟨by omega, q2⟩)
  · rintro (q | q | ⟨q1, q2⟩)
    · exact Or.inl q
    · exact Or.inr (Or.inl q)
    · by_cases e : u = t
      · subst e; exact absurd q2 n
      · exact Or.inr (Or.inr ⟨by omega, q2⟩)
theorem ec_MH_yes {h t : Nat} (k : ec_MH mn mk S g h t) (y : S t h) : ec_MH mn mk S (va_up g t True) h (t + 1) := fun u hu => by
  by_cases e : u = t
  · subst e; rw [va_up_self]
    exact ⟨fun _ => Or.inr (Or.inr ⟨by omega, y⟩), fun _ => trivial⟩
  · rw [va_up_ne _ _ e, k u hu]
    constructor
    · rintro (q | q | ⟨q1, q2⟩)
      · exact Or.inl q
      · exact Or.inr (Or.inl q)
      · exact Or.inr (Or.inr ⟨by omega, q2⟩)
    · rintro (q | q | ⟨q1, q2⟩)
      · exact Or.inl q
      · exact Or.inr (Or.inl q)
      · exact Or.inr (Or.inr ⟨by omega, q2⟩)
theorem ec_MH_row {h t : Nat} (k : ec_MH mn mk S g h t) (ht : mn ≤ t) : ec_MH mn mk S g (h + 1) 0 := fun u hu => by
  rw [k u hu]
  constructor
  · rintro (q | ⟨x, q1, q2⟩ | ⟨q1, q2⟩)
    · exact Or.inl q
    · exact Or.inr (Or.inl ⟨x, by omega, q2⟩)
    · exact Or.inr (Or.inl ⟨h, by omega, q2⟩)
  · rintro (q | ⟨x, q1, q2⟩ | ⟨q1, q2⟩)
    · exact Or.inl q
    · by_cases e : x = h
      · subst e; exact Or.inr (Or.inr ⟨by omega, q2⟩)
      · exact Or.inr (Or.inl ⟨x, by omega, q2⟩)
    · omega
/-- the other way round: reasons within a triangle -/
def ec_MO (mn : Nat) (mk : Nat → Prop) (S : Nat → Nat → Prop) (g : Nat → Prop) (t k : Nat) : Prop := ∀ u, u < mn → (g u ↔ (mk u ∨ (u < t ∧ ∃ x, x < 3 ∧ S u x) ∨ (u = t ∧ ∃ x, x < k ∧ S u x)))
theorem ec_MO_0 : ec_MO mn mk S mk 0 0 := fun u _ => ⟨Or.inl, fun q => by rcases q with q | ⟨q, _⟩ | ⟨_, x, q, _⟩; exact q; omega; omega⟩
theorem ec_MO_no {t k : Nat} (h : ec_MO mn mk S g t k) (n : ¬ S t k) : ec_MO mn mk S g t (k + 1) := fun u hu => by
  rw [h u hu]
  constructor
  · rintro (q | q | ⟨q1, x, q2, q3⟩)
    · exact Or.inl q
    · exact Or.inr (Or.inl q)
    · exact Or.inr (Or.inr ⟨q1, x, by omega, q3⟩)
  · rintro (q | q | ⟨q1, x, q2, q3⟩)
    · exact Or.inl q
    · exact Or.inr (Or.inl q)
    · by_cases e : x = k
      · subst e; subst q1; exact absurd q3 n
      · exact Or.inr (Or.inr ⟨q1, x, by omega, q3⟩)
theorem ec_MO_yes {t k : Nat} (h : ec_MO mn mk S g t k) (y : S t k) : ec_MO mn mk S (va_up g t True) t (k + 1) := fun u hu => by
  by_cases e : u = t
  · subst e; rw [va_up_self]
    exact ⟨fun _ => Or.inr (Or.inr ⟨rfl, k, by omega, y⟩), fun _ => trivial⟩
  · rw [va_up_ne _ _ e, h u hu]
    constructor
    · rintro (q | q | ⟨q1, _⟩)
      · exact Or.inl q
      · exact Or.inr (Or.inl q)
      · exact absurd q1 e
    · rintro (q | q | ⟨q1, _⟩)
      · exact Or.inl q
      · exact Or.inr (Or.inl q)
      · exact absurd q1 e
theorem ec_MO_row {t k : Nat} (h : ec_MO mn mk S g t k) (hk : k = 3) : ec_MO mn mk S g (t + 1) 0 := fun u hu => by
  subst hk
  rw [h u hu]
  constructor
  · rintro (q | ⟨q1, q2⟩ | ⟨q1, q2⟩)
    · exact Or.inl q
    · exact Or.inr (Or.inl ⟨by omega, q2⟩)
    · exact Or.inr (Or.inl ⟨by omega, q2⟩)
  · rintro (q | ⟨q1, q2⟩ | ⟨q1, x, q2, q3⟩)
    · exact Or.inl q
    · by_cases e : u = t
      · exact Or.inr (Or.inr ⟨e, q2⟩)
      · exact Or.inr (Or.inl ⟨by omega, q2⟩)
    · omega
end
/-- a side open to the outside that no segment holds -/
def ec_opens (mc : Nat → Nat) (mo : Nat → Option Nat) (mr : Nat → Nat) (t k : Nat) : Prop := ec_bey mc mo t k = none ∧ ¬ (mr (mc (3 * t + k))).testBit (mc (3 * t + ec_nx k)) = true
/-- beside a marked one, over a side that no segment holds -/
def ec_bes1 (mc : Nat → Nat) (mo : Nat → Option Nat) (mr : Nat → Nat) (g : Nat → Prop) (t k : Nat) : Prop := ∃ o, ec_bey mc mo t k = some o ∧ g o ∧ ¬ (mr (mc (3 * t + k))).testBit (mc (3 * t + ec_nx k)) = true
def ec_besM (mc : Nat → Nat) (mo : Nat → Option Nat) (mr : Nat → Nat) (g : Nat → Prop) (t : Nat) : Prop := ∃ k, k < 3 ∧ ec_bes1 mc mo mr g t k
/-- the least marks that are closed -/
def ec_Cl (n : Nat) (bs : (Nat → Prop) → Nat → Prop) (mk : Nat → Prop) (u : Nat) : Prop := ∀ G : Nat → Prop, (∀ v, v < n → mk v → G v) → (∀ v, v < n → bs G v → G v) → G u
/-- within spreading: between rounds -/
def ec_SP (n : Nat) (bs : (Nat → Prop) → Nat → Prop) (mk g : Nat → Prop) (fb ro : Nat) : Prop :=
  fb ≤ 1 ∧ (fb = 1 → (ro : Int) ≤ ec_cnt n g) ∧ (fb = 0 → ec_closed n bs g) ∧ (∀ u, u < n → mk u → g u) ∧ ∀ u, u < n → g u → ec_Cl n bs mk u
/-- and within a round -/
def ec_SQ (n : Nat) (bs : (Nat → Prop) → Nat → Prop) (mk g0 g : Nat → Prop) (fc t : Nat) : Prop :=
  fc ≤ 1 ∧ ec_RdC n bs g0 g (fc = 1) t ∧ (∀ u, u < n → mk u → g u) ∧ ∀ u, u < n → g u → ec_Cl n bs mk u
section
variable {n : Nat} {bs : (Nat → Prop) → Nat → Prop} {mk g0 g : Nat → Prop}
theorem ec_SP_0 : ec_SP n bs mk mk 1 0 := ⟨by omega, fun _ => ec_cnt_nonneg _ _, fun q => by omega, fun _ _ h => h, fun u hu h G g1 _ => g1 u hu h⟩
theorem ec_SQ_0 {fb ro : Nat} (h : ec_SP n bs mk g fb ro) : ec_SQ n bs mk g g 0 0 := by
  refine ⟨by omega, ?_, h.2.2.2.1, h.2.2.2.2⟩
  have e : ((0 : Nat) = 1) = False := propext ⟨fun q => by omega, fun q => q.elim⟩
  rw [e]; exact ec_RdC_0
theorem ec_SQ_keep {fc t : Nat} (h : ec_SQ n bs mk g0 g fc t) (hk : g t ∨ ¬ bs g t) : ec_SQ n bs mk g0 g fc (t + 1) := ⟨h.1, ec_RdC_keep h.2.1 hk, h.2.2⟩
theorem ec_SQ_mark (mono : ∀ g g' : Nat → Prop, (∀ v, v < n → g v → g' v) → ∀ t, t < n → bs g t → bs g' t) {fc t : Nat} (h : ec_SQ n bs mk g0 g fc t) (ht : t < n) (hn : ¬ g t) (hb : bs g t) : ec_SQ n bs mk g0 (va_up g t True) 1 (t + 1) := by
  refine ⟨by omega, ?_, fun u hu q => ec_up_mono u (h.2.2.1 u hu q), fun u hu q => ?_⟩
  · have e : ((1 : Nat) = 1) = True := propext ⟨fun _ => trivial, fun _ => rfl⟩
    rw [e]; exact ec_RdC_mark h.2.1 ht hn
  · by_cases e : u = t
    · subst e
      intro G g1 g2
      exact g2 u hu (mono g G (fun v hv z => h.2.2.2 v hv z G g1 g2) u hu hb)
    · rw [va_up_ne _ _ e] at q
      exact h.2.2.2 u hu q
theorem ec_SP_next {fb ro fc : Nat} (h : ec_SP n bs mk g0 fb ro) (hf : ¬ fb = 0) (k : ec_SQ n bs mk g0 g fc n) : ec_SP n bs mk g fc (ro + 1) := by
  have e := ec_RdC_end k.2.1
  refine ⟨k.1, fun q => ?_, fun q => e.1 (by omega), k.2.2.1, k.2.2.2⟩
  have h1 := e.2 q
  have h2 := h.2.1 (by have := h.1; omega)
  omega
theorem ec_SP_end (mono : ∀ g g' : Nat → Prop, (∀ v, v < n → g v → g' v) → ∀ t, t < n → bs g t → bs g' t) {fb ro : Nat} (hn : n ≤ 19) (h : ec_SP n bs mk g fb ro) (hf : fb = 0 ∨ 19 < ro) : ∀ u, u < n → (g u ↔ ec_Cl n bs mk u) := by
  have e : fb = 0 := by
    apply Classical.byContradiction; intro q
    have h1 := h.2.1 (by have := h.1; omega)
    have h2 := ec_cnt_le n g
    omega
  have cl := h.2.2.1 e
  intro u hu
  refine ⟨h.2.2.2.2 u hu, fun q => ?_⟩
  exact q g h.2.2.2.1 (fun v hv z => by
    rcases cl v hv with w | w
    · exact w
    · exact absurd z w)
end
theorem ec_besM_mono {pn mn : Nat} {mc : Nat → Nat} {mo : Nat → Option Nat} {mr : Nat → Nat} (g12 : pn ≤ 12) (gM : ec_MI pn mn mc mo mr) : ∀ g g' : Nat → Prop, (∀ v, v < mn → g v → g' v) → ∀ t, t < mn → ec_besM mc mo mr g t → ec_besM mc mo mr g' t := by
  rintro g g' h t ht ⟨k, hk, o, h1, h2, h3⟩
  refine ⟨k, hk, o, h1, h o ?_ h2, h3⟩
  have a1 := gM.2.1 (3 * t + k) (by omega)
  have a2 := gM.2.1 (3 * t + ec_nx k) (by have := ec_nx_lt (k := k) (by omega); omega)
  exact ec_Ow_lt (gM.2.2.1 (by omega)) (by omega) (by omega) h1
theorem ec_MO_c {mn : Nat} {mk g : Nat → Prop} {S : Nat → Nat → Prop} {t t' k : Nat} (h : ec_MO mn mk S g t k) (e : t = t') : ec_MO mn mk S g t' k := e ▸ h
theorem ec_SQ_c {n : Nat} {bs : (Nat → Prop) → Nat → Prop} {mk g0 g : Nat → Prop} {fc t t' : Nat} (h : ec_SQ n bs mk g0 g fc t) (e : t = t') : ec_SQ n bs mk g0 g fc t' := e ▸ h
