/-! what a build leaves -/
def ec_BS (pn : Nat) (px py : Nat → Int32) (ln : Nat) (lf lt : Nat → Nat) (hn : Nat) (qx qy : Nat → Int32) (bh bo : Prop) (n : Nat) (c : Nat → Nat) : Prop :=
  ∃ T, ec_Full pn px py ln lf lt T ∧ ec_En (ec_Kept T (ec_E ln lf lt) (ec_Sd T (ec_E ln lf lt) px py hn qx qy bh bo)) n c 144
theorem ec_Full_u {pn : Nat} {px py : Nat → Int32} {ln : Nat} {lf lt lr : Nat → Nat} (gS : ec_SI pn px py ln lf lt lr) {T T' : Nat → Nat → Nat → Prop} (h : ec_Full pn px py ln lf lt T) (h' : ec_Full pn px py ln lf lt T') : T = T' := by
  have one : ∀ T T' : Nat → Nat → Nat → Prop, ec_Full pn px py ln lf lt T → ec_Full pn px py ln lf lt T' → ∀ a b c, T a b c → T' a b c := by
    intro T T' h h' a b c k
    rcases h with ⟨s, M, g, l⟩ | ⟨s, e⟩
    · rcases h' with ⟨s', M', g', l'⟩ | ⟨s', e'⟩
      · exact ge_mesh_unique M M' gS.inj g g' l l' k
      · exact absurd s s'
    · exact absurd k (e a b c)
  funext a b c
  exact propext ⟨one T T' h h' a b c, one T' T h' h a b c⟩
theorem ec_BS_u {pn : Nat} {px py : Nat → Int32} {ln : Nat} {lf lt lr : Nat → Nat} (gS : ec_SI pn px py ln lf lt lr) {hn : Nat} {qx qy : Nat → Int32} {bh bo : Prop} {n n' : Nat} {c c' : Nat → Nat} (h : ec_BS pn px py ln lf lt hn qx qy bh bo n c) (h' : ec_BS pn px py ln lf lt hn qx qy bh bo n' c') : n = n' ∧ ∀ i, i < 3 * n → c i = c' i := by
  obtain ⟨T, f, e⟩ := h
  obtain ⟨T', f', e'⟩ := h'
  have := ec_Full_u gS f f'
  subst this
  have k := ec_En_unique e e'
  refine ⟨k.1, fun i hi => ?_⟩
  have q := k.2 (i / 3) (by omega)
  have : i % 3 = 0 ∨ i % 3 = 1 ∨ i % 3 = 2 := by omega
  rcases this with z | z | z
  · rw [show i = 3 * (i / 3) by omega]; exact q.1
  · rw [show i = 3 * (i / 3) + 1 by omega]; exact q.2.1
  · rw [show i = 3 * (i / 3) + 2 by omega]; exact q.2.2
section
variable {pn : Nat} {px py : Nat → Int32} {ln : Nat} {lf lt lr : Nat → Nat} {th : Nat → Option Nat} {mn : Nat} {mc : Nat → Nat} {mo : Nat → Option Nat} {mk : Nat → Prop} {mr : Nat → Nat} {hn : Nat} {qx qy : Nat → Int32}
theorem ec_En_lt {T : Nat → Nat → Nat → Prop} {n m : Nat} {c : Nat → Nat} (lt : ∀ a b c, T a b c → a < pn ∧ b < pn ∧ c < pn) (h : ec_En T n c m) : ∀ i, i < 3 * n → c i < pn := by
  intro i hi
  have q := lt _ _ _ (h.1 (i / 3) (by omega)).1
  have : i % 3 = 0 ∨ i % 3 = 1 ∨ i % 3 = 2 := by omega
  rcases this with z | z | z
  · rw [show i = 3 * (i / 3) by omega]; exact q.1
  · rw [show i = 3 * (i / 3) + 1 by omega]; exact q.2.1
  · rw [show i = 3 * (i / 3) + 2 by omega]; exact q.2.2
theorem ec_MI_cm (gS : ec_SI pn px py ln lf lt lr) (gF : ec_FM pn px py ln lf lt th) (h : ec_CM (ge_TF (ec_F th)) mn mc mo mk (pn * 12)) (hr : ∀ i, i < 12 → mr i = lr i) : ec_MI pn mn mc mo mr :=
  ⟨h.2.2.2, ec_En_lt (fun a b c k => (gF.ne k).1) h.1, fun _ => h.2.1, fun a ha => by rw [hr a ha]; exact gS.2.2.2.2.2.2.1 a ha⟩
theorem ec_mrL (gS : ec_SI pn px py ln lf lt lr) (hr : ∀ i, i < 12 → mr i = lr i) : ∀ a b, a < 12 → b < 12 → ((mr a).testBit b = true ↔ ec_E ln lf lt a b) := fun a b ha hb => by rw [hr a ha]; exact gS.2.2.2.2.2.2.2 a b ha hb
theorem ec_seeds (gS : ec_SI pn px py ln lf lt lr) (gF : ec_FM pn px py ln lf lt th) (h : ec_CM (ge_TF (ec_F th)) mn mc mo mk (pn * 12)) (hr : ∀ i, i < 12 → mr i = lr i) {bh bo : Prop} {g1 g2 : Nat → Prop}
    (h1 : (bh ∧ ec_MH mn mk (fun u x => ec_hold px py mc u (qx x) (qy x)) g1 hn 0) ∨ (¬ bh ∧ g1 = mk)) (h2 : (bo ∧ ec_MO mn g1 (ec_opens mc mo mr) g2 mn 0) ∨ (¬ bo ∧ g2 = g1)) :
    ∀ t, t < mn → (g2 t ↔ ec_Sd (ge_TF (ec_F th)) (ec_E ln lf lt) px py hn qx qy bh bo (mc (3 * t)) (mc (3 * t + 1)) (mc (3 * t + 2))) := by
  intro t ht
  have h12 := gS.1
  have gM := ec_MI_cm gS gF h hr
  have hm : ∀ x y, x < pn → y < pn → x * 12 + y < pn * 12 := fun x y hx hy => by omega
  have op : ∀ k, k < 3 → (ec_opens mc mo mr t k ↔ ec_opn2 (ge_TF (ec_F th)) (ec_E ln lf lt) (mc (3 * t + k)) (mc (3 * t + ec_nx k))) := by
    intro k hk
    have a1 := gM.2.1 (3 * t + k) (by omega)
    have a2 := gM.2.1 (3 * t + ec_nx k) (by have := ec_nx_lt (k := k) (by omega); omega)
    unfold ec_opens ec_opn2 ec_bey
    rw [ec_bey_none (T := ge_TF (ec_F th)) gF.rot (fun a b c q => gF.ne q) h12 hm h.1 h.2.1 (by omega) (by omega), ec_mrL gS hr _ _ (by omega) (by omega)]
    exact And.comm
  have e1 : g1 t ↔ (bh ∧ ∃ x, x < hn ∧ ec_in3 px py (mc (3 * t)) (mc (3 * t + 1)) (mc (3 * t + 2)) (qx x) (qy x)) := by
    rcases h1 with ⟨b, q⟩ | ⟨b, rfl⟩
    · rw [q t ht]
      constructor
      · rintro (z | z | ⟨z, _⟩)
        · exact absurd z (h.2.2.1 t ht)
        · exact ⟨b, z⟩
        · omega
      · rintro ⟨_, z⟩
        exact Or.inr (Or.inl z)
    · exact ⟨fun z => absurd z (h.2.2.1 t ht), fun z => absurd z.1 b⟩
  have e2 : (∃ x, x < 3 ∧ ec_opens mc mo mr t x) ↔ (ec_opn2 (ge_TF (ec_F th)) (ec_E ln lf lt) (mc (3 * t)) (mc (3 * t + 1)) ∨ ec_opn2 (ge_TF (ec_F th)) (ec_E ln lf lt) (mc (3 * t + 1)) (mc (3 * t + 2)) ∨ ec_opn2 (ge_TF (ec_F th)) (ec_E ln lf lt) (mc (3 * t + 2)) (mc (3 * t))) := by
    constructor
    · rintro ⟨x, hx, q⟩
      have q' := (op x hx).mp q
      have : x = 0 ∨ x = 1 ∨ x = 2 := by omega
      rcases this with rfl | rfl | rfl
      · exact Or.inl q'
      · exact Or.inr (Or.inl q')
      · exact Or.inr (Or.inr q')
    · rintro (q | q | q)
      · exact ⟨0, by omega, (op 0 (by omega)).mpr q⟩
      · exact ⟨1, by omega, (op 1 (by omega)).mpr q⟩
      · exact ⟨2, by omega, (op 2 (by omega)).mpr q⟩
  unfold ec_Sd
  rw [← e1, ← e2]
  rcases h2 with ⟨b, q⟩ | ⟨b, rfl⟩
  · rw [q t ht]
    constructor
    · rintro (z | ⟨_, z⟩ | ⟨z, _⟩)
      · exact Or.inl z
      · exact Or.inr ⟨b, z⟩
      · omega
    · rintro (z | ⟨_, z⟩)
      · exact Or.inl z
      · exact Or.inr (Or.inl ⟨ht, z⟩)
  · exact ⟨Or.inl, fun z => by rcases z with z | ⟨z, _⟩; exact z; exact absurd z b⟩
theorem ec_build (gS : ec_SI pn px py ln lf lt lr) (gF : ec_FM pn px py ln lf lt th) (h : ec_CM (ge_TF (ec_F th)) mn mc mo mk (pn * 12)) (hr : ∀ i, i < 12 → mr i = lr i) {bh bo : Prop} {g1 g2 g3 : Nat → Prop}
    (h1 : (bh ∧ ec_MH mn mk (fun u x => ec_hold px py mc u (qx x) (qy x)) g1 hn 0) ∨ (¬ bh ∧ g1 = mk)) (h2 : (bo ∧ ec_MO mn g1 (ec_opens mc mo mr) g2 mn 0) ∨ (¬ bo ∧ g2 = g1))
    (h3 : ∀ x, x < mn → (g3 x ↔ ec_Cl mn (ec_besM mc mo mr) g2 x)) :
    ec_KP (ge_TF (ec_F th)) (ec_Kept (ge_TF (ec_F th)) (ec_E ln lf lt) (ec_Sd (ge_TF (ec_F th)) (ec_E ln lf lt) px py hn qx qy bh bo)) pn mn mc g3 := by
  have h12 := gS.1
  have hm : ∀ x y, x < pn → y < pn → x * 12 + y < pn * 12 := fun x y hx hy => by omega
  have gone := ec_carve (T := ge_TF (ec_F th)) (L := ec_E ln lf lt) (Sd := ec_Sd (ge_TF (ec_F th)) (ec_E ln lf lt) px py hn qx qy bh bo) gF.rot (fun a b c q => gF.ne q) gF.uni h12 hm h.1 h.2.1 (ec_mrL gS hr) (fun a b c q => ec_Sd_rot q) (ec_seeds gS gF h hr h1 h2) h3
  refine ⟨ec_En_skip h.1 (by omega) (fun x y z k _ _ q _ => by have := (gF.ne k).1; omega), fun a b c q => q.1, fun a b c q => ⟨gF.rot _ _ _ q.1, fun z => q.2 (ec_Gone_rot (ec_Gone_rot z))⟩, gF.uni, fun a b c q => gF.ne q, fun s hs => ?_, h.2.2.2, h12⟩
  rw [gone s hs]
  constructor
  · intro q k; exact k.2 q
  · intro q
    apply Classical.byContradiction; intro z
    exact q ⟨(h.1.1 s hs).1, z⟩
theorem ec_built (gS : ec_SI pn px py ln lf lt lr) (gF : ec_FM pn px py ln lf lt th) (m19 : mn ≤ 19) (hr : ∀ i, i < 12 → mr i = lr i) {bh bo : Prop} {vn : Nat} {vc : Nat → Nat} {vo : Nat → Option Nat}
    (h : vn ≤ mn ∧ ec_En (ec_Kept (ge_TF (ec_F th)) (ec_E ln lf lt) (ec_Sd (ge_TF (ec_F th)) (ec_E ln lf lt) px py hn qx qy bh bo)) vn vc 144 ∧ ec_Ow vn vc vo) :
    ec_BS pn px py ln lf lt hn qx qy bh bo vn vc ∧ ec_MI pn vn vc vo mr ∧ ∀ a b, a < 12 → b < 12 → ((mr a).testBit b = true ↔ ec_E ln lf lt a b) :=
  ⟨⟨_, ec_Full.of gF, h.2.1⟩, ⟨by omega, ec_En_lt (fun a b c k => (gF.ne k.1).1) h.2.1, fun _ => h.2.2, fun a ha => by rw [hr a ha]; exact gS.2.2.2.2.2.2.1 a ha⟩, ec_mrL gS hr⟩
end
