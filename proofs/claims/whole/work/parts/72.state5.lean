/-! dropping what is marked -/
def ec_key (mn : Nat) (mc : Nat → Nat) (t : Nat) : Nat := if t < mn then mc (3 * t) * 12 + mc (3 * t + 1) else 144
def ec_KP (T0 T : Nat → Nat → Nat → Prop) (pn mn : Nat) (mc : Nat → Nat) (mk : Nat → Prop) : Prop :=
  ec_En T0 mn mc 144 ∧ (∀ a b c, T a b c → T0 a b c) ∧ (∀ a b c, T a b c → T b c a) ∧ (∀ a b c d, T0 a b c → T0 a b d → c = d) ∧ (∀ a b c, T0 a b c → (a < pn ∧ b < pn ∧ c < pn) ∧ a ≠ b ∧ b ≠ c ∧ a ≠ c) ∧
  (∀ s, s < mn → (mk s ↔ ¬ T (mc (3 * s)) (mc (3 * s + 1)) (mc (3 * s + 2)))) ∧ mn ≤ 19 ∧ pn ≤ 12
def ec_DR (T : Nat → Nat → Nat → Prop) (mn : Nat) (mc : Nat → Nat) (mk : Nat → Prop) (vn : Nat) (vc : Nat → Nat) (vo : Nat → Option Nat) (vk : Nat → Prop) (t : Nat) : Prop :=
  vn ≤ t ∧ (∀ i, 3 * t ≤ i → vc i = mc i) ∧ (∀ i, t ≤ i → (vk i ↔ mk i)) ∧ ec_En T vn vc (ec_key mn mc t) ∧ ec_Ow vn vc vo
section
variable {T0 T : Nat → Nat → Nat → Prop} {pn mn : Nat} {mc : Nat → Nat} {mk : Nat → Prop} {vn : Nat} {vc : Nat → Nat} {vo : Nat → Option Nat} {vk : Nat → Prop} {t : Nat}
theorem ec_KP.key (h : ec_KP T0 T pn mn mc mk) {x y z : Nat} (k : T x y z) (hxy : x < y) (hxz : x < z) : ∃ s, s < mn ∧ mc (3 * s) = x ∧ mc (3 * s + 1) = y ∧ mc (3 * s + 2) = z := by
  have l := (h.2.2.2.2.1 _ _ _ (h.2.1 _ _ _ k)).1
  have := h.2.2.2.2.2.2.2
  exact h.1.2.2 x y z (h.2.1 _ _ _ k) hxy hxz (by omega)
theorem ec_KP.mono (h : ec_KP T0 T pn mn mc mk) {s u : Nat} (hsu : s < u) (hu : u ≤ mn) : ec_key mn mc s < ec_key mn mc u := by
  unfold ec_key
  by_cases e : u < mn
  · rw [if_pos (by omega), if_pos e]; exact h.1.2.1 s u hsu e
  · rw [if_pos (by omega), if_neg e]; exact (h.1.1 s (by omega)).2.2.2
theorem ec_KP.at (h : ec_KP T0 T pn mn mc mk) {s : Nat} (hs : s < mn) : ec_key mn mc s = mc (3 * s) * 12 + mc (3 * s + 1) := if_pos hs
theorem ec_KP.low (h : ec_KP T0 T pn mn mc mk) {x y z : Nat} (k : T x y z) (hxy : x < y) (hxz : x < z) : ec_key mn mc 0 ≤ x * 12 + y := by
  obtain ⟨s, hs, e1, e2, e3⟩ := h.key k hxy hxz
  rw [← e1, ← e2, ← h.at hs]
  by_cases e : s = 0
  · rw [e]; exact Nat.le_refl _
  · exact Nat.le_of_lt (h.mono (by omega) (by omega))
theorem ec_KP.gap (h : ec_KP T0 T pn mn mc mk) (ht : t < mn) {x y z : Nat} (k : T x y z) (hxy : x < y) (hxz : x < z) (h1 : ec_key mn mc t ≤ x * 12 + y) (h2 : x * 12 + y < ec_key mn mc (t + 1)) : mc (3 * t) = x ∧ mc (3 * t + 1) = y ∧ mc (3 * t + 2) = z := by
  obtain ⟨s, hs, e1, e2, e3⟩ := h.key k hxy hxz
  rw [← e1, ← e2, ← h.at hs] at h1 h2
  have : s = t := by
    apply Classical.byContradiction; intro ne
    rcases Nat.lt_or_ge s t with q | q
    · have := h.mono q (by omega); omega
    · by_cases e : s = t + 1
      · subst e; omega
      · have := h.mono (s := t + 1) (u := s) (by omega) (by omega); omega
  subst this
  exact ⟨e1, e2, e3⟩
theorem ec_DR_0 (h : ec_KP T0 T pn mn mc mk) (hu : ∀ j, j < 144 → vo j = none) : ec_DR T mn mc mk 0 mc vo mk 0 :=
  ⟨by omega, fun _ _ => rfl, fun _ _ => Iff.rfl, ec_En_skip (ec_En_nil _ _) (Nat.zero_le _) (fun x y z k h1 h2 _ h4 => by have := h.low k h1 h2; omega),
   fun x y hx hy t => by rw [hu _ (by omega)]; exact ⟨fun q => (by cases q), fun q => by omega⟩⟩
theorem ec_DR_skip (h : ec_KP T0 T pn mn mc mk) (d : ec_DR T mn mc mk vn vc vo vk t) (ht : t < mn) (hm : vk t) : ec_DR T mn mc mk vn vc vo vk (t + 1) := by
  obtain ⟨d1, d2, d3, d4, d5⟩ := d
  refine ⟨by omega, fun i hi => d2 i (by omega), fun i hi => d3 i (by omega), ec_En_skip d4 (Nat.le_of_lt (h.mono (by omega) (by omega))) (fun x y z k h1 h2 h3 h4 => ?_), d5⟩
  obtain ⟨rfl, rfl, rfl⟩ := h.gap ht k h1 h2 h3 h4
  exact (h.2.2.2.2.2.1 t ht).mp ((d3 t (by omega)).mp hm) k
theorem ec_DR_add (h : ec_KP T0 T pn mn mc mk) (d : ec_DR T mn mc mk vn vc vo vk t) (ht : t < mn) (hm : ¬ vk t) :
    (vn < 19 ∧ vc (3 * t + 0) < 12 ∧ vc (3 * t + 1) < 12 ∧ vc (3 * t + 2) < 12) ∧ ec_DR T mn mc mk (vn + 1) (ec_tc vc vn (vc (3 * t + 0)) (vc (3 * t + 1)) (vc (3 * t + 2))) (ec_to vo vn (vc (3 * t + 0)) (vc (3 * t + 1)) (vc (3 * t + 2))) (va_up vk vn False) (t + 1) := by
  obtain ⟨d1, d2, d3, d4, d5⟩ := d
  have m19 := h.2.2.2.2.2.2.1
  have p12 := h.2.2.2.2.2.2.2
  have kT : T (mc (3 * t)) (mc (3 * t + 1)) (mc (3 * t + 2)) := Classical.byContradiction fun q => hm ((d3 t (by omega)).mpr ((h.2.2.2.2.2.1 t ht).mpr q))
  have kk := h.1.1 t ht
  have l := h.2.2.2.2.1 _ _ _ kk.1
  have e0 : vc (3 * t + 0) = mc (3 * t) := d2 _ (by omega)
  have e1 : vc (3 * t + 1) = mc (3 * t + 1) := d2 _ (by omega)
  have e2 : vc (3 * t + 2) = mc (3 * t + 2) := d2 _ (by omega)
  rw [e0, e1, e2]
  refine ⟨⟨by omega, by omega, by omega, by omega⟩, by omega, fun i hi => ?_, fun i hi => ?_, ?_, ?_⟩
  · unfold ec_tc
    rw [va_up_ne _ _ (by omega), va_up_ne _ _ (by omega), va_up_ne _ _ (by omega)]
    exact d2 i (by omega)
  · rw [va_up_ne _ _ (by omega)]; exact d3 i (by omega)
  · have en := ec_En_add (c' := ec_tc vc vn (mc (3 * t)) (mc (3 * t + 1)) (mc (3 * t + 2))) d4 kT kk.2.1 kk.2.2.1 (h.at ht) (fun x' y' z' q h1 h2 h3 => by
      have q1 := h.mono (s := t) (u := t + 1) (by omega) (by omega)
      have := h.gap ht q h1 h2 (by rw [h.at ht]; omega) (by rw [h.at ht] at q1; omega)
      exact ⟨this.1.symm, this.2.1.symm, this.2.2.symm⟩) (fun i hi => ec_tc_lo hi) ec_tc_0 ec_tc_1 ec_tc_2
    exact ec_En_skip en (h.mono (by omega) (by omega)) (fun x y z k h1 h2 h3 h4 => by
      obtain ⟨rfl, rfl, rfl⟩ := h.gap ht k h1 h2 (by omega) h4
      rw [h.at ht] at h3
      omega)
  · rw [h.at ht] at d4
    exact ec_Ow_add d5 (by omega) (by omega) (by omega) l.2.1 l.2.2.1 l.2.2.2 (ec_En_new h.2.2.1 (fun a b c d q q' => h.2.2.2.1 _ _ _ _ (h.2.1 _ _ _ q) (h.2.1 _ _ _ q')) d4 kT kk.2.1 kk.2.2.1) (fun i hi => ec_tc_lo hi) ec_tc_0 ec_tc_1 ec_tc_2
theorem ec_DR_end (d : ec_DR T mn mc mk vn vc vo vk t) (ht : mn ≤ t) (ht2 : t ≤ mn) : vn ≤ mn ∧ ec_En T vn vc 144 ∧ ec_Ow vn vc vo := by
  obtain ⟨d1, d2, d3, d4, d5⟩ := d
  rw [show ec_key mn mc t = 144 from if_neg (by omega)] at d4
  exact ⟨by omega, d4, d5⟩
end
/-! what is carved -/
def ec_in3 (px py : Nat → Int32) (a b c : Nat) (vx vy : Int32) : Prop := 0 ≤ ec_lfc px py a b vx vy ∧ 0 ≤ ec_lfc px py b c vx vy ∧ 0 ≤ ec_lfc px py c a vx vy
def ec_opn2 (T : Nat → Nat → Nat → Prop) (L : Nat → Nat → Prop) (a b : Nat) : Prop := ¬ L a b ∧ ∀ d, ¬ T b a d
def ec_Sd (T : Nat → Nat → Nat → Prop) (L : Nat → Nat → Prop) (px py : Nat → Int32) (hn : Nat) (qx qy : Nat → Int32) (bh bo : Prop) (a b c : Nat) : Prop :=
  (bh ∧ ∃ h, h < hn ∧ ec_in3 px py a b c (qx h) (qy h)) ∨ (bo ∧ (ec_opn2 T L a b ∨ ec_opn2 T L b c ∨ ec_opn2 T L c a))
theorem ec_Sd_rot {T : Nat → Nat → Nat → Prop} {L : Nat → Nat → Prop} {px py : Nat → Int32} {hn : Nat} {qx qy : Nat → Int32} {bh bo : Prop} {a b c : Nat} (h : ec_Sd T L px py hn qx qy bh bo a b c) : ec_Sd T L px py hn qx qy bh bo b c a := by
  rcases h with ⟨h1, x, hx, i1, i2, i3⟩ | ⟨h1, h2⟩
  · exact Or.inl ⟨h1, x, hx, i2, i3, i1⟩
  · refine Or.inr ⟨h1, ?_⟩
    rcases h2 with h2 | h2 | h2
    · exact Or.inr (Or.inr h2)
    · exact Or.inl h2
    · exact Or.inr (Or.inl h2)
/-- the full mesh of points and links: good, where not all lie on a line; else nothing -/
def ec_Full (pn : Nat) (px py : Nat → Int32) (ln : Nat) (lf lt : Nat → Nat) (T : Nat → Nat → Nat → Prop) : Prop :=
  ((ge_Spread pn (ec_P px py) ∧ ge_Mesh pn (ec_P px py) T ∧ ge_Good (ec_P px py) T (ec_E ln lf lt) ∧ ∀ a b, ec_E ln lf lt a b → ge_Edge T a b) ∨ (¬ ge_Spread pn (ec_P px py) ∧ ∀ x y z, ¬ T x y z))
theorem ec_Full.of {pn : Nat} {px py : Nat → Int32} {ln : Nat} {lf lt : Nat → Nat} {th : Nat → Option Nat} (h : ec_FM pn px py ln lf lt th) : ec_Full pn px py ln lf lt (ge_TF (ec_F th)) := by
  rcases h.1 with ⟨h1, h2, h3⟩ | ⟨h1, h2⟩
  · exact Or.inl ⟨h1, h2, h.2, h3⟩
  · refine Or.inr ⟨h1, fun x y z q => ?_⟩
    have : ec_F th x y = some z := q
    rw [h2] at this; cases this
def ec_Kept (T : Nat → Nat → Nat → Prop) (L : Nat → Nat → Prop) (Sd : Nat → Nat → Nat → Prop) (a b c : Nat) : Prop := T a b c ∧ ¬ ec_Gone T L Sd a b c
section
variable {pn : Nat} {T : Nat → Nat → Nat → Prop} {L : Nat → Nat → Prop} {Sd : Nat → Nat → Nat → Prop} {mn : Nat} {mc : Nat → Nat} {mo : Nat → Option Nat} {mr : Nat → Nat}
theorem ec_nx0 : ec_nx 0 = 1 := rfl
theorem ec_nx1 : ec_nx 1 = 2 := rfl
theorem ec_nx22 : ec_nx 2 = 0 := rfl
theorem ec_side_k {t x y : Nat} : ec_side mc t x y ↔ ∃ k, k < 3 ∧ mc (3 * t + k) = x ∧ mc (3 * t + ec_nx k) = y := by
  constructor
  · rintro (⟨h1, h2⟩ | ⟨h1, h2⟩ | ⟨h1, h2⟩)
    · exact ⟨0, by omega, h1, h2⟩
    · exact ⟨1, by omega, h1, h2⟩
    · exact ⟨2, by omega, h1, h2⟩
  · rintro ⟨k, hk, h1, h2⟩
    have : k = 0 ∨ k = 1 ∨ k = 2 := by omega
    rcases this with rfl | rfl | rfl
    · exact Or.inl ⟨h1, h2⟩
    · exact Or.inr (Or.inl ⟨h1, h2⟩)
    · exact Or.inr (Or.inr ⟨h1, h2⟩)
theorem ec_side_sd {t x y : Nat} : ec_side mc t x y ↔ ec_sd (fun t => mc (3 * t)) (fun t => mc (3 * t + 1)) (fun t => mc (3 * t + 2)) t x y := Iff.rfl
/-- every triangle has a number -/
theorem ec_En_all (rot : ∀ a b c, T a b c → T b c a) (lt : ∀ a b c, T a b c → (a < pn ∧ b < pn ∧ c < pn) ∧ a ≠ b ∧ b ≠ c ∧ a ≠ c) {m : Nat} (hm : ∀ x y, x < pn → y < pn → x * 12 + y < m) (h : ec_En T mn mc m) {a b c : Nat} (k : T a b c) :
    ∃ t, t < mn ∧ ec_rot3 (fun t => mc (3 * t)) (fun t => mc (3 * t + 1)) (fun t => mc (3 * t + 2)) t a b c := by
  have l := lt _ _ _ k
  have k1 := rot _ _ _ k
  have k2 := rot _ _ _ k1
  by_cases q1 : a < b ∧ a < c
  · obtain ⟨t, ht, e1, e2, e3⟩ := h.2.2 a b c k q1.1 q1.2 (hm _ _ l.1.1 l.1.2.1)
    exact ⟨t, ht, Or.inl ⟨e1, e2, e3⟩⟩
  · by_cases q2 : b < c ∧ b < a
    · obtain ⟨t, ht, e1, e2, e3⟩ := h.2.2 b c a k1 q2.1 q2.2 (hm _ _ l.1.2.1 l.1.2.2)
      exact ⟨t, ht, Or.inr (Or.inr ⟨e3, e1, e2⟩)⟩
    · obtain ⟨t, ht, e1, e2, e3⟩ := h.2.2 c a b k2 (by omega) (by omega) (hm _ _ l.1.2.2 l.1.1)
      exact ⟨t, ht, Or.inr (Or.inl ⟨e2, e3, e1⟩)⟩
theorem ec_bey_none (rot : ∀ a b c, T a b c → T b c a) (lt : ∀ a b c, T a b c → (a < pn ∧ b < pn ∧ c < pn) ∧ a ≠ b ∧ b ≠ c ∧ a ≠ c) (p12 : pn ≤ 12) {m : Nat} (hm : ∀ x y, x < pn → y < pn → x * 12 + y < m) (h : ec_En T mn mc m) (ow : ec_Ow mn mc mo) {x y : Nat} (hx : x < 12) (hy : y < 12) :
    mo (x * 12 + y) = none ↔ ∀ d, ¬ T x y d := by
  constructor
  · intro q d k
    obtain ⟨t, ht, r⟩ := ec_En_all rot lt hm h k
    have := (ow x y hx hy t).mpr ⟨ht, ec_side_sd.mpr (ec_rot3_sd r)⟩
    rw [q] at this; cases this
  · intro q
    cases e : mo (x * 12 + y) with
    | none => rfl
    | some t =>
      obtain ⟨ht, s⟩ := (ow x y hx hy t).mp e
      obtain ⟨z, k, _⟩ := ec_En_side rot h ht s
      exact absurd k (q z)
/-- the marks that the class spreads are what carving takes away -/
theorem ec_carve (rot : ∀ a b c, T a b c → T b c a) (lt : ∀ a b c, T a b c → (a < pn ∧ b < pn ∧ c < pn) ∧ a ≠ b ∧ b ≠ c ∧ a ≠ c) (uni : ∀ a b c d, T a b c → T a b d → c = d) (p12 : pn ≤ 12) {m : Nat} (hm : ∀ x y, x < pn → y < pn → x * 12 + y < m) (h : ec_En T mn mc m) (ow : ec_Ow mn mc mo)
    (hL : ∀ a b, a < 12 → b < 12 → ((mr a).testBit b = true ↔ L a b)) (sr : ∀ a b c, Sd a b c → Sd b c a) {mk g : Nat → Prop} (hs : ∀ t, t < mn → (mk t ↔ Sd (mc (3 * t)) (mc (3 * t + 1)) (mc (3 * t + 2)))) (hg : ∀ t, t < mn → (g t ↔ ec_Cl mn (ec_besM mc mo mr) mk t)) :
    ∀ t, t < mn → (g t ↔ ec_Gone T L Sd (mc (3 * t)) (mc (3 * t + 1)) (mc (3 * t + 2))) := by
  have cl : ∀ t i, t < mn → i < 3 → mc (3 * t + i) < 12 := by
    intro t i ht hi
    have l := (lt _ _ _ (h.1 t ht).1).1
    have : i = 0 ∨ i = 1 ∨ i = 2 := by omega
    rcases this with rfl | rfl | rfl
    · have := l.1; show mc (3 * t) < 12; omega
    · omega
    · omega
  have tri : ∀ t, t < mn → T (mc (3 * t)) (mc (3 * t + 1)) (mc (3 * t + 2)) := fun t ht => (h.1 t ht).1
  have nxl : ∀ k, k < 3 → ec_nx k < 3 := fun k hk => by have := ec_nx_lt (k := k) (by omega); omega
  refine ec_marks (T := T) (L := L) (Sd := Sd) (A := fun t => mc (3 * t)) (B := fun t => mc (3 * t + 1)) (C := fun t => mc (3 * t + 2)) g rot tri (fun a b c k => ec_En_all rot lt hm h k) ?_ (fun a b c _ => sr a b c) ?_ ?_ ?_
  · intro t u a b c ht hu r r'
    have s1 := (ow a b ?_ ?_ t).mpr ⟨ht, ec_side_sd.mpr (ec_rot3_sd r)⟩
    · have s2 := (ow a b ?_ ?_ u).mpr ⟨hu, ec_side_sd.mpr (ec_rot3_sd r')⟩
      · rw [s1] at s2; cases s2; rfl
      · have := (lt _ _ _ (ec_rot3_T (T := T) rot (tri t ht) r)).1; omega
      · have := (lt _ _ _ (ec_rot3_T (T := T) rot (tri t ht) r)).1; omega
    · have := (lt _ _ _ (ec_rot3_T (T := T) rot (tri t ht) r)).1; omega
    · have := (lt _ _ _ (ec_rot3_T (T := T) rot (tri t ht) r)).1; omega
  · intro t ht q
    refine (hg t ht).mp q (fun t => t < mn → ec_Gone T L Sd (mc (3 * t)) (mc (3 * t + 1)) (mc (3 * t + 2))) (fun v hv z _ => ?_) (fun v hv z _ => ?_) ht
    · exact ec_Gone_seed (tri v hv) ((hs v hv).mp z)
    · obtain ⟨k, hk, o, b1, b2, b3⟩ := z
      have c1 := cl v k hv hk
      have c2 := cl v _ hv (nxl k hk)
      obtain ⟨ho, so⟩ := (ow _ _ c2 c1 o).mp b1
      have nl : ¬ L (mc (3 * v + k)) (mc (3 * v + ec_nx k)) := fun q => b3 ((hL _ _ c1 c2).mpr q)
      have go := b2 ho
      obtain ⟨w, kw, rw'⟩ := ec_En_side rot h ho so
      have gw : ec_Gone T L Sd (mc (3 * v + ec_nx k)) (mc (3 * v + k)) w := by
        rcases rw' with ⟨e1, e2, e3⟩ | ⟨e1, e2, e3⟩ | ⟨e1, e2, e3⟩
        · rw [← e1, ← e2, ← e3]; exact go
        · rw [← e1, ← e2, ← e3]; exact ec_Gone_rot go
        · rw [← e1, ← e2, ← e3]; exact ec_Gone_rot (ec_Gone_rot go)
      have : k = 0 ∨ k = 1 ∨ k = 2 := by omega
      have kv := tri v hv
      rcases this with rfl | rfl | rfl
      · exact ec_Gone_step kv kw nl gw
      · exact ec_Gone_rot (ec_Gone_rot (ec_Gone_step (rot _ _ _ kv) kw nl gw))
      · exact ec_Gone_rot (ec_Gone_step (rot _ _ _ (rot _ _ _ kv)) kw nl gw)
  · intro t ht q
    exact (hg t ht).mpr (fun G g1 _ => g1 t ht ((hs t ht).mpr q))
  · intro t u x y ht hu s s' nl q
    refine (hg t ht).mpr (fun G g1 g2 => g2 t ht ?_)
    obtain ⟨k, hk, e1, e2⟩ := ec_side_k.mp (ec_side_sd.mpr s)
    have c1 := cl t k ht hk
    have c2 := cl t _ ht (nxl k hk)
    refine ⟨k, hk, u, ?_, (hg u hu).mp q G g1 g2, ?_⟩
    · refine (ow _ _ c2 c1 u).mpr ⟨hu, ?_⟩
      rw [e1, e2]; exact ec_side_sd.mpr s'
    · rw [hL _ _ c1 c2, e1, e2]; exact nl
end
