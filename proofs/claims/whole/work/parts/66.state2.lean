/-! finding triangles -/
section
variable {n : Nat} {P : Nat → ge_Pt} {E : Nat → Nat → Prop} {F : Nat → Nat → Option Nat}
theorem ec_srt_lt {p q r x y z : Nat} (h : ec_srt p q r x y z) {b : Nat} (hx : x < b) (hy : y < b) (hz : z < b) : p < b ∧ q < b ∧ r < b := by
  rcases h.2.2 with ⟨rfl, rfl, rfl⟩ | ⟨rfl, rfl, rfl⟩ | ⟨rfl, rfl, rfl⟩ | ⟨rfl, rfl, rfl⟩ | ⟨rfl, rfl, rfl⟩ | ⟨rfl, rfl, rfl⟩ <;> exact ⟨by assumption, by assumption, by assumption⟩
theorem ec_TE_lt (Pl : ge_Plan n P E) {x y z : Nat} (k : ge_TE n P E x y z) : x < n ∧ y < n ∧ z < n := ⟨(Pl.lt k.1).1, (Pl.lt k.1).2, (Pl.lt k.2.1).2⟩
/-- a triangle's corners in their own order are joined -/
theorem ec_srt_E (Pl : ge_Plan n P E) {p q r x y z : Nat} (h : ec_srt p q r x y z) (k : ge_TE n P E x y z) : E p q ∧ E q r ∧ E p r := by
  have s1 := Pl.symm k.1; have s2 := Pl.symm k.2.1; have s3 := Pl.symm k.2.2.1
  have k1 := k.1; have k2 := k.2.1; have k3 := k.2.2.1
  rcases h.2.2 with ⟨rfl, rfl, rfl⟩ | ⟨rfl, rfl, rfl⟩ | ⟨rfl, rfl, rfl⟩ | ⟨rfl, rfl, rfl⟩ | ⟨rfl, rfl, rfl⟩ | ⟨rfl, rfl, rfl⟩ <;> exact ⟨by assumption, by assumption, by assumption⟩
theorem ec_T3_go (Pl : ge_Plan n P E) (h12 : n ≤ 12) {m m' : Nat} (h : ec_T3 n P E F m) (hm : m ≤ m')
    (hn : ∀ p q r, p < q → q < r → r < n → E p q → E q r → E p r → m ≤ p * 144 + q * 12 + r → p * 144 + q * 12 + r < m' → False) : ec_T3 n P E F m' :=
  ec_T3_jump h hm (fun x y z p q r k s h1 h2 => by
    have l := ec_TE_lt Pl k
    have l2 := ec_srt_lt s l.1 l.2.1 l.2.2
    have e := ec_srt_E Pl s k
    exact hn p q r s.1 s.2.1 l2.2.2 e.1 e.2.1 e.2.2 h1 h2)
theorem ec_T3_in (Pl : ge_Plan n P E) (h12 : n ≤ 12) {m i j k u v w : Nat} (h : ec_T3 n P E F m) (hm : m = i * 144 + j * 12 + k) (hij : i < j) (hjk : j < k) (hk : k < n)
    (huvw : (u = i ∧ v = j ∧ w = k) ∨ (u = i ∧ v = k ∧ w = j)) (hp : 0 < ge_ori (P u) (P v) (P w))
    (hin : ∃ t, t < n ∧ 0 < ge_ori (P u) (P v) (P t) ∧ 0 < ge_ori (P v) (P w) (P t) ∧ 0 < ge_ori (P w) (P u) (P t)) : ec_T3 n P E F (m + 1) :=
  ec_T3_jump h (by omega) (fun x y z p q r kt s h1 h2 => by
    have l := ec_TE_lt Pl kt
    have l2 := ec_srt_lt s l.1 l.2.1 l.2.2
    have e1 : p = i := by omega
    have e2 : q = j := by omega
    have e3 : r = k := by omega
    subst e1; subst e2; subst e3
    obtain ⟨t, ht, i1, i2, i3⟩ := hin
    have pos := kt.2.2.2.1
    have em := kt.2.2.2.2 t ht
    have r1 := ge_rot (P u) (P v) (P w)
    have r2 := ge_rot2 (P u) (P v) (P w)
    have r3 := ge_swp (P u) (P v) (P w)
    have r4 := ge_swp2 (P u) (P v) (P w)
    have r5 := ge_swp3 (P u) (P v) (P w)
    rcases huvw with ⟨rfl, rfl, rfl⟩ | ⟨rfl, rfl, rfl⟩ <;>
      rcases s.2.2 with ⟨rfl, rfl, rfl⟩ | ⟨rfl, rfl, rfl⟩ | ⟨rfl, rfl, rfl⟩ | ⟨rfl, rfl, rfl⟩ | ⟨rfl, rfl, rfl⟩ | ⟨rfl, rfl, rfl⟩ <;>
      first | exact em ⟨i1, i2, i3⟩ | exact em ⟨i2, i3, i1⟩ | exact em ⟨i3, i1, i2⟩ | omega)
end
def ec_TT (pn : Nat) (px py : Nat → Int32) (sn : Nat) (sf st : Nat → Nat) (th : Nat → Option Nat) (m : Nat) : Prop := ec_T3 pn (ec_P px py) (ec_E sn sf st) (ec_F th) m
/-- whether something lies within -/
def ec_ins (pn : Nat) (px py : Nat → Int32) (i j k : Nat) : Prop := ∃ v, v < pn ∧ 0 < ge_ori (ec_P px py i) (ec_P px py j) (ec_P px py v) ∧ 0 < ge_ori (ec_P px py j) (ec_P px py k) (ec_P px py v) ∧ 0 < ge_ori (ec_P px py k) (ec_P px py i) (ec_P px py v)
def ec_tri3 (th : Nat → Option Nat) (i j k : Nat) : Nat → Option Nat := va_up (va_up (va_up th (i * 12 + j) (some k)) (j * 12 + k) (some i)) (k * 12 + i) (some j)
theorem ec_F_tri3 {th : Nat → Option Nat} {i j k : Nat} (hi : i < 12) (hj : j < 12) (hk : k < 12) : ec_F (ec_tri3 th i j k) = ge_updF (ge_updF (ge_updF (ec_F th) i j (some k)) j k (some i)) k i (some j) := by
  unfold ec_tri3
  rw [ec_F_up hk hi, ec_F_up hj hk, ec_F_up hi hj]
section
variable {pn : Nat} {px py : Nat → Int32} {ln : Nat} {lf lt lr : Nat → Nat} {sn : Nat} {sf st sr : Nat → Nat} {L : Nat → Nat → Prop}
theorem ec_TT_set (gS : ec_SI pn px py ln lf lt lr) (gP : ec_PL pn px py L sn sf st sr) {g g' : Nat → Option Nat} {i j k u v w : Nat} (hT : ec_TT pn px py sn sf st g (i * 144 + j * 12 + k)) (hij : i < j) (hjk : j < k) (hk : k < pn)
    (e1 : ec_E sn sf st i j) (e2 : ec_E sn sf st j k) (e3 : ec_E sn sf st i k)
    (huvw : (u = i ∧ v = j ∧ w = k) ∨ (u = i ∧ v = k ∧ w = j)) (hp : 0 < ge_ori (ec_P px py u) (ec_P px py v) (ec_P px py w))
    (hd : (ec_ins pn px py u v w ∧ g' = g) ∨ (¬ ec_ins pn px py u v w ∧ g' = ec_tri3 g u v w)) : ec_TT pn px py sn sf st g' (i * 144 + j * 12 + k + 1) := by
  have h12 := gS.1
  rcases hd with ⟨h1, rfl⟩ | ⟨h1, rfl⟩
  · exact ec_T3_in gP.1 h12 hT rfl hij hjk hk huvw hp h1
  · unfold ec_TT
    rw [ec_F_tri3 (by omega) (by omega) (by omega)]
    refine ec_T3_set gP.1 gS.inj h12 hT hij hjk rfl huvw ⟨?_, ?_, ?_, hp, fun t ht q => h1 ⟨t, ht, q⟩⟩
    · rcases huvw with ⟨rfl, rfl, rfl⟩ | ⟨rfl, rfl, rfl⟩
      · exact e1
      · exact e3
    · rcases huvw with ⟨rfl, rfl, rfl⟩ | ⟨rfl, rfl, rfl⟩
      · exact e2
      · exact ec_E_symm e2
    · rcases huvw with ⟨rfl, rfl, rfl⟩ | ⟨rfl, rfl, rfl⟩
      · exact ec_E_symm e3
      · exact ec_E_symm e1
theorem ec_TT_no (gS : ec_SI pn px py ln lf lt lr) (gP : ec_PL pn px py L sn sf st sr) {g : Nat → Option Nat} {i j k : Nat} (hT : ec_TT pn px py sn sf st g (i * 144 + j * 12 + k)) (hij : i < j) (hjk : j < k) (hk : k < pn)
    (hn : ¬ ec_E sn sf st i k ∨ ¬ ec_E sn sf st j k) : ec_TT pn px py sn sf st g (i * 144 + j * 12 + k + 1) :=
  ec_T3_go gP.1 gS.1 hT (by omega) (fun p q r h1 h2 h3 a b c l1 l2 => by
    have h12 := gS.1
    have e1 : p = i := by omega
    have e2 : q = j := by omega
    have e3 : r = k := by omega
    subst e1; subst e2; subst e3
    rcases hn with z | z
    · exact z c
    · exact z b)
theorem ec_TT_j (gS : ec_SI pn px py ln lf lt lr) (gP : ec_PL pn px py L sn sf st sr) {g : Nat → Option Nat} {i j : Nat} (hT : ec_TT pn px py sn sf st g (i * 144 + j * 12)) (hj : j < pn) : ec_TT pn px py sn sf st g (i * 144 + j * 12 + (j + 1)) :=
  ec_T3_go gP.1 gS.1 hT (by omega) (fun p q r h1 h2 h3 a b c l1 l2 => by have h12 := gS.1; omega)
theorem ec_TT_k (gS : ec_SI pn px py ln lf lt lr) (gP : ec_PL pn px py L sn sf st sr) {g : Nat → Option Nat} {i j k : Nat} (hT : ec_TT pn px py sn sf st g (i * 144 + j * 12 + k)) (hk : pn ≤ k) (hk2 : k ≤ 12) : ec_TT pn px py sn sf st g (i * 144 + (j + 1) * 12) :=
  ec_T3_go gP.1 gS.1 hT (by omega) (fun p q r h1 h2 h3 a b c l1 l2 => by have h12 := gS.1; omega)
theorem ec_TT_i (gS : ec_SI pn px py ln lf lt lr) (gP : ec_PL pn px py L sn sf st sr) {g : Nat → Option Nat} {i : Nat} (hT : ec_TT pn px py sn sf st g (i * 144)) (hi : i < pn) : ec_TT pn px py sn sf st g (i * 144 + (i + 1) * 12) :=
  ec_T3_go gP.1 gS.1 hT (by omega) (fun p q r h1 h2 h3 a b c l1 l2 => by have h12 := gS.1; omega)
theorem ec_TT_nj (gS : ec_SI pn px py ln lf lt lr) (gP : ec_PL pn px py L sn sf st sr) {g : Nat → Option Nat} {i j : Nat} (hT : ec_TT pn px py sn sf st g (i * 144 + j * 12)) (hj : j < pn) (hn : ¬ ec_E sn sf st i j) : ec_TT pn px py sn sf st g (i * 144 + (j + 1) * 12) :=
  ec_T3_go gP.1 gS.1 hT (by omega) (fun p q r h1 h2 h3 a b c l1 l2 => by
    have h12 := gS.1
    have e1 : p = i := by omega
    have e2 : q = j := by omega
    subst e1; subst e2; exact hn a)
theorem ec_TT_row (gS : ec_SI pn px py ln lf lt lr) (gP : ec_PL pn px py L sn sf st sr) {g : Nat → Option Nat} {i j : Nat} (hT : ec_TT pn px py sn sf st g (i * 144 + j * 12)) (hj : pn ≤ j) (hj2 : j ≤ 12) : ec_TT pn px py sn sf st g ((i + 1) * 144) :=
  ec_T3_go gP.1 gS.1 hT (by omega) (fun p q r h1 h2 h3 a b c l1 l2 => by have h12 := gS.1; omega)
theorem ec_TT_0 {g : Nat → Option Nat} (h : ∀ j, j < 144 → g j = none) : ec_TT pn px py sn sf st g 0 := by
  have : ec_F g = fun _ _ => none := by
    funext x y
    unfold ec_F
    by_cases q : x < 12 ∧ y < 12
    · rw [if_pos q]; exact h _ (by omega)
    · rw [if_neg q]
  unfold ec_TT
  rw [this]; exact ec_T3_start
theorem ec_TT_neg (gS : ec_SI pn px py ln lf lt lr) (gP : ec_PL pn px py L sn sf st sr) {i j k : Nat} (e1 : ec_E sn sf st i j) (e2 : ec_E sn sf st j k) (e3 : ec_E sn sf st i k)
    (h : ec_sgn (ge_ori (ec_P px py i) (ec_P px py j) (ec_P px py k)) ≤ 0) : 0 < ge_ori (ec_P px py i) (ec_P px py k) (ec_P px py j) := by
  have h1 := ec_sle h
  have h2 := ec_no_line gP.1 gS.el e1 e2 e3
  have h3 := ge_swp2 (ec_P px py i) (ec_P px py j) (ec_P px py k)
  omega
theorem ec_TT_end (gS : ec_SI pn px py ln lf lt lr) (gP : ec_PL pn px py L sn sf st sr) {g : Nat → Option Nat} {i : Nat} (hT : ec_TT pn px py sn sf st g (i * 144)) (hi : pn ≤ i) : ge_TF (ec_F g) = ge_TE pn (ec_P px py) (ec_E sn sf st) :=
  ec_T3_end gP.1 gS.1 hT (by omega)
end
/-! flips -/
def ec_bad (px py : Nat → Int32) (lr : Nat → Nat) (th : Nat → Option Nat) (i j : Nat) : Prop :=
  ∃ c d, th (i * 12 + j) = some c ∧ th (j * 12 + i) = some d ∧ ¬ (lr i).testBit j = true ∧ (0 < ec_circ px py i j c d ∨ (ec_circ px py i j c d = 0 ∧ min c d < min i j))
def ec_flipth (th : Nat → Option Nat) (i j c d : Nat) : Nat → Option Nat := ec_tri3 (ec_tri3 (va_up (va_up th (i * 12 + j) none) (j * 12 + i) none) i d c) d j c
theorem ec_F_flip {th : Nat → Option Nat} {i j c d : Nat} (hi : i < 12) (hj : j < 12) (hc : c < 12) (hd : d < 12) (ne : i ≠ j ∧ j ≠ c ∧ i ≠ c ∧ i ≠ d ∧ j ≠ d ∧ c ≠ d) :
    ec_F (ec_flipth th i j c d) = ge_flipF (ec_F th) i j c d := by
  unfold ec_flipth
  rw [ec_F_tri3 hd hj hc, ec_F_tri3 hi hd hc, ec_F_up hj hi, ec_F_up hi hj, ge_flipF_eq (ec_F th) ne.1 ne.2.1 ne.2.2.1 ne.2.2.2.1 ne.2.2.2.2.1 ne.2.2.2.2.2]
section
variable {pn : Nat} {px py : Nat → Int32} {ln : Nat} {lf lt lr : Nat → Nat} {th g : Nat → Option Nat}
def ec_GM (pn : Nat) (px py : Nat → Int32) (ln : Nat) (lf lt : Nat → Nat) (th : Nat → Option Nat) : Prop := ec_G pn (ec_P px py) (ec_E ln lf lt) (ec_F th)
theorem ec_GM.lts (h : ec_GM pn px py ln lf lt th) {x y z : Nat} (hx : x < 12) (hy : y < 12) (k : th (x * 12 + y) = some z) : x < pn ∧ y < pn ∧ z < pn :=
  ec_G_lt h (x := x) (y := y) (z := z) (by rw [ec_F_in hx hy]; exact k)
theorem ec_GM.start (gS : ec_SI pn px py ln lf lt lr) {sn : Nat} {sf st sr : Nat → Nat} (gP : ec_PL pn px py (ec_E ln lf lt) sn sf st sr) (h : ge_TF (ec_F th) = ge_TE pn (ec_P px py) (ec_E sn sf st)) : ec_GM pn px py ln lf lt th := by
  by_cases sp : ge_Spread pn (ec_P px py)
  · refine Or.inl ⟨sp, ?_, ?_⟩
    · rw [h]; exact gP.1.mesh gS.inj sp
    · rw [h]; exact fun a b q => gP.1.edge gS.inj sp (gP.2.1 a b q)
  · refine Or.inr ⟨sp, fun x y => ?_⟩
    cases q : ec_F th x y with
    | none => rfl
    | some z =>
      exfalso
      have k : ge_TF (ec_F th) x y z := q
      rw [h] at k
      have l := ec_TE_lt gP.1 k
      have := k.2.2.2.1
      exact sp ⟨x, y, z, l.1, l.2.1, l.2.2, by omega⟩
theorem ec_bad_D (gS : ec_SI pn px py ln lf lt lr) (h : ec_GM pn px py ln lf lt th) {i j c d : Nat} (hc : ec_F th i j = some c) (hd : ec_F th j i = some d) :
    ((0 < ec_circ px py i j c d ∨ (ec_circ px py i j c d = 0 ∧ min c d < min i j)) → 0 < ge_Dd (ec_P px py i) (ec_P px py j) (ec_P px py c) (ec_P px py d)) ∧
    (¬ (0 < ec_circ px py i j c d ∨ (ec_circ px py i j c d = 0 ∧ min c d < min i j)) → ge_Dd (ec_P px py i) (ec_P px py j) (ec_P px py c) (ec_P px py d) < 0) := by
  obtain ⟨_, M, _⟩ := ec_G_mesh h hc
  have l1 := M.lt (show ge_TF (ec_F th) i j c from hc)
  have l2 := M.lt (show ge_TF (ec_F th) j i d from hd)
  exact ge_bad_iff gS.2.2.1 gS.1 (fun i hi => (gS.2.1 i hi).1) (fun i hi => (gS.2.1 i hi).2) l1.1 l1.2.1 l1.2.2 l2.2.2 (M.pos (show ge_TF (ec_F th) i j c from hc)) (M.pos (show ge_TF (ec_F th) j i d from hd))
theorem ec_GM.flip (gS : ec_SI pn px py ln lf lt lr) (h : ec_GM pn px py ln lf lt th) {i j c d : Nat} (hi : i < 12) (hj : j < 12) (hc : th (i * 12 + j) = some c) (hd : th (j * 12 + i) = some d) (nl : ¬ (lr i).testBit j = true)
    (hb : 0 < ec_circ px py i j c d ∨ (ec_circ px py i j c d = 0 ∧ min c d < min i j)) :
    ec_GM pn px py ln lf lt (ec_flipth th i j c d) ∧ ge_Phi pn (ec_P px py) (ec_F (ec_flipth th i j c d)) ≤ ge_Phi pn (ec_P px py) (ec_F th) - 3 := by
  have hc' : ec_F th i j = some c := by rw [ec_F_in hi hj]; exact hc
  have hd' : ec_F th j i = some d := by rw [ec_F_in hj hi]; exact hd
  have D := (ec_bad_D gS h hc' hd').1 hb
  have l1 := ec_G_lt h hc'
  have l2 := ec_G_lt h hd'
  have h12 := gS.1
  have nl' : ¬ ec_E ln lf lt i j := fun q => nl ((gS.2.2.2.2.2.2.2 i j hi hj).mpr q)
  obtain ⟨a1, a2, a3⟩ := ec_G_flip h gS.inj gS.lift (fun a b q => ec_E_symm q) hc' hd' nl' D
  rw [ec_F_flip hi hj (by omega) (by omega) a3]
  refine ⟨?_, a2⟩
  unfold ec_GM
  rw [ec_F_flip hi hj (by omega) (by omega) a3]
  exact a1
theorem ec_GM.good (gS : ec_SI pn px py ln lf lt lr) (h : ec_GM pn px py ln lf lt th) (hb : ∀ x y, x < y → y < pn → ¬ ec_bad px py lr th x y) : ge_Good (ec_P px py) (ge_TF (ec_F th)) (ec_E ln lf lt) := by
  have key : ∀ a b c d, a < b → ge_TF (ec_F th) a b c → ge_TF (ec_F th) b a d → ¬ ec_E ln lf lt a b → ge_Dd (ec_P px py a) (ec_P px py b) (ec_P px py c) (ec_P px py d) < 0 := by
    intro a b c d hab h1 h2 nl
    have l1 := ec_G_lt h h1
    have l2 := ec_G_lt h h2
    have h12 := gS.1
    refine (ec_bad_D gS h h1 h2).2 (fun q => hb a b hab l1.2.1 ⟨c, d, ?_, ?_, fun z => nl ((gS.2.2.2.2.2.2.2 a b (by omega) (by omega)).mp z), q⟩)
    · exact (ec_F_in (th := th) (x := a) (y := b) (by omega) (by omega)).symm.trans h1
    · exact (ec_F_in (th := th) (x := b) (y := a) (by omega) (by omega)).symm.trans h2
  intro a b c d h1 h2 nl
  rcases Nat.lt_trichotomy a b with q | q | q
  · exact key a b c d q h1 h2 nl
  · subst q
    obtain ⟨_, M, _⟩ := ec_G_mesh h h1
    exact absurd rfl (M.ne h1).1
  · have := key b a d c q h2 h1 (fun z => nl (ec_E_symm z))
    have e : ge_Dd (ec_P px py b) (ec_P px py a) (ec_P px py d) (ec_P px py c) = ge_Dd (ec_P px py a) (ec_P px py b) (ec_P px py c) (ec_P px py d) := by unfold ge_Dd ge_ori; grind
    omega
/-- within a round of flips: g is the table now, th as it was, fb whether one was flipped -/
def ec_FB (pn : Nat) (px py : Nat → Int32) (ln : Nat) (lf lt lr : Nat → Nat) (th g : Nat → Option Nat) (fb i j : Nat) : Prop :=
  ec_GM pn px py ln lf lt g ∧ fb ≤ 1 ∧ (fb = 0 → g = th ∧ ∀ x y, x < y → y < pn → (x < i ∨ (x = i ∧ y < j)) → ¬ ec_bad px py lr g x y) ∧ (fb = 1 → ge_Phi pn (ec_P px py) (ec_F g) + 3 ≤ ge_Phi pn (ec_P px py) (ec_F th))
theorem ec_FB.start (h : ec_GM pn px py ln lf lt th) : ec_FB pn px py ln lf lt lr th th 0 0 (0 + 1) := ⟨h, by omega, fun _ => ⟨rfl, fun x y h1 h2 h3 => by omega⟩, fun q => by omega⟩
theorem ec_FB.skip {fb i j : Nat} (h : ec_FB pn px py ln lf lt lr th g fb i j) (nb : ¬ ec_bad px py lr g i j) : ec_FB pn px py ln lf lt lr th g fb i (j + 1) :=
  ⟨h.1, h.2.1, fun q => ⟨(h.2.2.1 q).1, fun x y h1 h2 h3 => by
    by_cases e : x = i ∧ y = j
    · rw [e.1, e.2]; exact nb
    · exact (h.2.2.1 q).2 x y h1 h2 (by omega)⟩, h.2.2.2⟩
theorem ec_FB.row {fb i j : Nat} (h : ec_FB pn px py ln lf lt lr th g fb i j) (hj : pn ≤ j) : ec_FB pn px py ln lf lt lr th g fb (i + 1) (i + 1 + 1) :=
  ⟨h.1, h.2.1, fun q => ⟨(h.2.2.1 q).1, fun x y h1 h2 h3 => (h.2.2.1 q).2 x y h1 h2 (by omega)⟩, h.2.2.2⟩
theorem ec_FB.flip (gS : ec_SI pn px py ln lf lt lr) {fb i j c d : Nat} (h : ec_FB pn px py ln lf lt lr th g fb i j) (hi : i < 12) (hj : j < 12) (hc : g (i * 12 + j) = some c) (hd : g (j * 12 + i) = some d) (nl : ¬ (lr i).testBit j = true)
    (hb : 0 < ec_circ px py i j c d ∨ (ec_circ px py i j c d = 0 ∧ min c d < min i j)) : ec_FB pn px py ln lf lt lr th (ec_flipth g i j c d) 1 i (j + 1) := by
  have f := ec_GM.flip gS h.1 hi hj hc hd nl hb
  refine ⟨f.1, by omega, fun q => by omega, fun _ => ?_⟩
  have h1 := h.2.1
  by_cases e : fb = 0
  · have := (h.2.2.1 e).1
    subst this
    have := f.2; omega
  · have := h.2.2.2 (by omega)
    have := f.2; omega
/-- what a round of flips leaves -/
def ec_FR (pn : Nat) (px py : Nat → Int32) (ln : Nat) (lf lt lr : Nat → Nat) (th g : Nat → Option Nat) (fb : Nat) : Prop :=
  ec_GM pn px py ln lf lt g ∧ fb ≤ 1 ∧ (fb = 0 → ∀ x y, x < y → y < pn → ¬ ec_bad px py lr g x y) ∧ (fb = 1 → ge_Phi pn (ec_P px py) (ec_F g) + 3 ≤ ge_Phi pn (ec_P px py) (ec_F th))
theorem ec_FB.fin {fb i j : Nat} (h : ec_FB pn px py ln lf lt lr th g fb i j) (hi : pn ≤ i) : ec_FR pn px py ln lf lt lr th g fb :=
  ⟨h.1, h.2.1, fun q x y h1 h2 => (h.2.2.1 q).2 x y h1 h2 (Or.inl (by omega)), h.2.2.2⟩
theorem ec_phi_bd (gS : ec_SI pn px py ln lf lt lr) : ge_Phi pn (ec_P px py) (ec_F th) ≤ 1728 := by
  have h := ge_Phi_le (n := pn) (P := ec_P px py) (ec_F th)
  have k : ∀ n, n < 13 → n * (n * (n * 1)) ≤ 1728 := by decide
  have k2 := k pn (by have := gS.1; omega)
  have : ((pn * (pn * (pn * 1)) : Nat) : Int) ≤ 1728 := by omega
  push_cast at this
  omega
/-- the full mesh -/
def ec_FM (pn : Nat) (px py : Nat → Int32) (ln : Nat) (lf lt : Nat → Nat) (th : Nat → Option Nat) : Prop := ec_GM pn px py ln lf lt th ∧ ge_Good (ec_P px py) (ge_TF (ec_F th)) (ec_E ln lf lt)
/-- between rounds -/
def ec_FL (pn : Nat) (px py : Nat → Int32) (ln : Nat) (lf lt lr : Nat → Nat) (g : Nat → Option Nat) (fb ro : Nat) : Prop :=
  ec_GM pn px py ln lf lt g ∧ fb ≤ 1 ∧ (fb = 0 → ∀ x y, x < y → y < pn → ¬ ec_bad px py lr g x y) ∧ (fb = 1 → ge_Phi pn (ec_P px py) (ec_F g) + 3 * (ro : Int) ≤ 1728)
theorem ec_FL.start (gS : ec_SI pn px py ln lf lt lr) (h : ec_GM pn px py ln lf lt th) : ec_FL pn px py ln lf lt lr th 1 0 := ⟨h, by omega, fun q => by omega, fun _ => by have := ec_phi_bd (th := th) gS; omega⟩
theorem ec_FL.next {ro fb : Nat} {g' : Nat → Option Nat} {fb' : Nat} (h : ec_FL pn px py ln lf lt lr g fb ro) (hf : ¬ fb = 0) (k : ec_FR pn px py ln lf lt lr g g' fb') : ec_FL pn px py ln lf lt lr g' fb' (ro + 1) :=
  ⟨k.1, k.2.1, k.2.2.1, fun q => by have h1 := k.2.2.2 q; have h2 := h.2.2.2 (by have := h.2.1; omega); omega⟩
theorem ec_FL.fin (gS : ec_SI pn px py ln lf lt lr) {ro fb : Nat} (h : ec_FL pn px py ln lf lt lr g fb ro) (hf : fb = 0 ∨ 1000 ≤ ro) : ec_FM pn px py ln lf lt g := by
  have e : fb = 0 := by
    apply Classical.byContradiction; intro q
    have h1 := h.2.2.2 (by have := h.2.1; omega)
    have h2 := ge_Phi_nonneg (n := pn) (P := ec_P px py) (ec_F g)
    omega
  exact ⟨h.1, ec_GM.good gS h.1 (h.2.2.1 e)⟩
end
theorem ec_nar01 {n : Nat} (h : n ≤ 1) : narrow .boolean (.int (nI n)) = .int (nI n) := by
  have : n = 0 ∨ n = 1 := by omega
  rcases this with rfl | rfl <;> rfl
theorem ec_spos {z : Int} (h : (0 : Int32) < ec_sgn z) : 0 < z := (ec_sgn_gt z).mp h
theorem ec_szero {z : Int} (h : ec_sgn z = 0) : z = 0 := (ec_sgn_eq z).mp h
theorem ec_bad_no1 {z : Int} {P : Prop} (h1 : ¬ (0 : Int32) < ec_sgn z) (h2 : ¬ ec_sgn z = 0) (q : 0 < z ∨ (z = 0 ∧ P)) : False := by
  rw [ec_sgn_gt] at h1; rw [ec_sgn_eq] at h2
  rcases q with q | q
  · exact h1 q
  · exact h2 q.1
theorem ec_nmin {a b : Nat} (ha : a < 2 ^ 31) (hb : b < 2 ^ 31) : (if nI b < nI a then nI b else nI a) = nI (min a b) := by
  by_cases h : b < a
  · rw [if_pos ((nI_ltI hb ha).mpr h), Nat.min_eq_right (by omega)]
  · rw [if_neg (fun q => h ((nI_ltI hb ha).mp q)), Nat.min_eq_left (by omega)]
theorem ec_bad_min {c d i j : Nat} (hc : c < 2 ^ 31) (hd : d < 2 ^ 31) (hi : i < 2 ^ 31) (hj : j < 2 ^ 31) (h : ¬ (if nI j < nI i then nI j else nI i) ≤ (if nI d < nI c then nI d else nI c)) : min c d < min i j := by
  rw [ec_nmin hi hj, ec_nmin hc hd, nI_leI (by omega) (by omega)] at h
  omega
theorem ec_bad_no2 {z : Int} {c d i j : Nat} (h1 : ¬ (0 : Int32) < ec_sgn z) (hc : c < 2 ^ 31) (hd : d < 2 ^ 31) (hi : i < 2 ^ 31) (hj : j < 2 ^ 31) (h : (if nI j < nI i then nI j else nI i) ≤ (if nI d < nI c then nI d else nI c)) (q : 0 < z ∨ (z = 0 ∧ min c d < min i j)) : False := by
  rw [ec_sgn_gt] at h1
  rw [ec_nmin hi hj, ec_nmin hc hd, nI_leI (by omega) (by omega)] at h
  omega
theorem ec_m1_ne {n : Nat} (h : n < 2 ^ 31) : ¬ nI n = -1 := by
  intro q
  have := nI_toInt h
  rw [q] at this
  have e : (-1 : Int32).toInt = -1 := by decide
  omega
theorem ec_m1_lt {n : Nat} (h : n < 2 ^ 31) : (-1 : Int32) < nI n := by
  rw [Int32.lt_iff_toInt_lt, nI_toInt h]
  have e : (-1 : Int32).toInt = -1 := by decide
  omega
theorem ec_m1_le {n : Nat} (h : n < 2 ^ 31) : (-1 : Int32) ≤ nI n := by
  rw [Int32.le_iff_toInt_le, nI_toInt h]
  have e : (-1 : Int32).toInt = -1 := by decide
  omega
theorem ec_m1_nlt {n : Nat} (h : n < 2 ^ 31) : ¬ nI n < (-1 : Int32) := by
  rw [Int32.lt_iff_toInt_lt, nI_toInt h]
  have e : (-1 : Int32).toInt = -1 := by decide
  omega
theorem ec_m1_nle {n : Nat} (h : n < 2 ^ 31) : ¬ nI n ≤ (-1 : Int32) := by
  rw [Int32.le_iff_toInt_le, nI_toInt h]
  have e : (-1 : Int32).toInt = -1 := by decide
  omega
theorem ec_TT_c {pn : Nat} {px py : Nat → Int32} {sn : Nat} {sf st : Nat → Nat} {th : Nat → Option Nat} {m m' : Nat} (h : ec_TT pn px py sn sf st th m) (e : m = m') : ec_TT pn px py sn sf st th m' := e ▸ h
