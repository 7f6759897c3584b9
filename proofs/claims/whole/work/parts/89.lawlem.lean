/-! the law: what ties the two, and small rows for its walk -/
def ec_LR (mn : Nat) (mc mr kc : Nat → Nat) (kf : Nat → Prop) : Prop :=
  (∀ i, i < 3 * mn → kc i = mc i) ∧ ∀ t k, t < mn → k < 3 → (kf (3 * t + k) ↔ (mr (mc (3 * t + k))).testBit (mc (3 * t + ec_nx k)) = true)
def ec_LS (dC : Nat → ClassId) (dI : Nat → Nat → Nat) (a b : Nat → Nat) (cI cZ cJ : ClassId) (A : Nat → Prop) (H0 H : Heap) (locs : List Loc) : Prop :=
  ∃ (pn : Nat) (px : Nat → Int32) (py : Nat → Int32) (ln : Nat) (lf : Nat → Nat) (lt : Nat → Nat) (lr : Nat → Nat) (sn : Nat) (sf : Nat → Nat) (st : Nat → Nat) (sr : Nat → Nat) (th : Nat → Option Nat) (hn : Nat) (qx : Nat → Int32) (qy : Nat → Int32) (mn : Nat) (mc : Nat → Nat) (mk : Nat → Prop) (mo : Nat → Option Nat) (mr : Nat → Nat) (rc : Nat) (w1 : Nat → Nat) (w2 : Nat → Nat) (w3 : Nat → Nat) (rg : Nat → Prop) (rk : Nat) (kc : Nat → Nat) (kf : Nat → Prop) (kp : Nat → Int64),
    ec_SI pn px py ln lf lt lr ∧ hn ≤ 3 ∧ ec_MI pn mn mc mo mr ∧ ec_LR mn mc mr kc kf ∧ mn = rk ∧ va_P (dC, dI) vwCl (wX a cI cZ cJ pn px py ln lf lt lr sn sf st sr th hn qx qy mn mc mk mo mr ++ wR b cI cZ cJ pn px py ln lf lt hn qx qy rc w1 w2 w3 rg rk kc kf kp) H ∧ va_D A (wX a cI cZ cJ pn px py ln lf lt lr sn sf st sr th hn qx qy mn mc mk mo mr ++ wR b cI cZ cJ pn px py ln lf lt hn qx qy rc w1 w2 w3 rg rk kc kf kp) ∧ va_S A H0 H locs
noncomputable def ec_pk (S : Nat → Prop) : Option Nat := @dite (Option Nat) (∃ t, S t) (Classical.propDecidable _) (fun h => some (Classical.choose h)) (fun _ => none)
section
variable {pn mn : Nat} {mc mr kc : Nat → Nat} {mo : Nat → Option Nat} {kf : Nat → Prop} {px py : Nat → Int32}
theorem ec_side_c (h : ∀ i, i < 3 * mn → kc i = mc i) {t : Nat} (ht : t < mn) (x y : Nat) : ec_side kc t x y ↔ ec_side mc t x y := by
  unfold ec_side
  rw [h (3 * t) (by omega), h (3 * t + 1) (by omega), h (3 * t + 2) (by omega)]
theorem ec_own_c (h : ∀ i, i < 3 * mn → kc i = mc i) (x y : Nat) : ec_own mn mc x y = ec_own mn kc x y := by
  show ec_pk (fun t => t < mn ∧ ec_side mc t x y) = ec_pk (fun t => t < mn ∧ ec_side kc t x y)
  congr 1
  funext t
  exact propext ⟨fun q => ⟨q.1, (ec_side_c h q.1 x y).mpr q.2⟩, fun q => ⟨q.1, (ec_side_c h q.1 x y).mp q.2⟩⟩
theorem ec_acr_c (h : ∀ i, i < 3 * mn → kc i = mc i) {t k : Nat} (ht : t < mn) (hk : k < 3) : ec_acr mn mc t k = ec_acr mn kc t k := by
  unfold ec_acr
  have hn := ec_nx_lt (k := k) (by omega)
  rw [h (3 * t + k) (by omega), h (3 * t + ec_nx k) (by omega), ec_own_c h]
theorem ec_corF_c (h : ∀ i, i < 3 * mn → kc i = mc i) (v w : Int32) : ec_corF mn mc v w = ec_corF mn kc v w := by
  by_cases q : ec_hc mn v w
  · obtain ⟨t, k, ht, ht2, hk, rfl, rfl⟩ := ec_ofHC q
    rw [← ec_corF_y ht ht2 hk, ← ec_corF_y ht ht2 hk, h _ (by omega)]
  · rw [← ec_corF_n q, ← ec_corF_n q]
theorem ec_acrF_c (h : ∀ i, i < 3 * mn → kc i = mc i) (v w : Int32) : ec_acrF mn mc v w = ec_acrF mn kc v w := by
  by_cases q : ec_hc mn v w
  · obtain ⟨t, k, ht, ht2, hk, rfl, rfl⟩ := ec_ofHC q
    rw [← ec_acrF_y ht ht2 hk rfl, ← ec_acrF_y ht ht2 hk rfl, ec_acr_c h ht hk]
  · rw [← ec_acrF_n q, ← ec_acrF_n q]
theorem ec_bor_c (h : ∀ i, i < 3 * mn → kc i = mc i) : ∀ k, k ≤ 3 * mn → ec_bor mn mc k = ec_bor mn kc k := by
  intro k
  induction k with
  | zero => intro _; rfl
  | succ k ih =>
    intro hk
    simp only [ec_bor]
    rw [ih (by omega), ec_acr_c h (by omega) (by omega)]
theorem ec_bor_le (k : Nat) : ec_bor mn mc k ≤ k := by
  induction k with
  | zero => exact Nat.le_refl _
  | succ k ih =>
    simp only [ec_bor]
    by_cases q : ec_acr mn mc (k / 3) (k % 3) = none
    · rw [ec_if_t q]; omega
    · rw [ec_if_f q]; omega
theorem ec_deg_c (h : ∀ i, i < 3 * mn → kc i = mc i) (v : Int32) : ∀ k, k ≤ 3 * mn → ec_deg mc v k = ec_deg kc v k := by
  intro k
  induction k with
  | zero => intro _; rfl
  | succ k ih =>
    intro hk
    simp only [ec_deg]
    rw [ih (by omega), h k (by omega)]
theorem ec_degF_c (h : ∀ i, i < 3 * mn → kc i = mc i) (v : Int32) : ec_degF pn mn mc v = ec_degF pn mn kc v := by
  unfold ec_degF
  rw [ec_deg_c h v _ (Nat.le_refl _)]
theorem ec_sumL_c {f g : Nat → Int} : ∀ k, (∀ t, t < k → f t = g t) → ec_sumL f k = ec_sumL g k := by
  intro k
  induction k with
  | zero => intro _; rfl
  | succ k ih =>
    intro h
    simp only [ec_sumL]
    rw [ih (fun t ht => h t (by omega)), h k (by omega)]
theorem ec_are_c (h : ∀ i, i < 3 * mn → kc i = mc i) : ec_sumL (ec_arT px py mc) mn = ec_sumL (ec_arT px py kc) mn := by
  apply ec_sumL_c
  intro t ht
  unfold ec_arT
  rw [h (3 * t + 0) (by omega), h (3 * t + 1) (by omega), h (3 * t + 2) (by omega)]
theorem ec_hold_c (h : ∀ i, i < 3 * mn → kc i = mc i) (vx vy : Int32) : ∀ t, t < mn → (ec_hold px py mc t vx vy ↔ ec_hold px py kc t vx vy) := by
  intro t ht
  unfold ec_hold
  rw [ec_nx0, ec_nx1, ec_nx22, h (3 * t + 0) (by omega), h (3 * t + 1) (by omega), h (3 * t + 2) (by omega)]
theorem ec_gkc (gM : ec_MI pn mn mc mo mr) (gL : ec_LR mn mc mr kc kf) : ∀ i, i < 3 * mn → kc i < pn := fun i hi => by rw [gL.1 i hi]; exact gM.2.1 i hi
theorem ec_guq (g12 : pn ≤ 12) (gM : ec_MI pn mn mc mo mr) (gL : ec_LR mn mc mr kc kf) : ec_uqs mn kc := by
  intro t u x y ht hu s s'
  exact ec_uqs_Ow (gM.2.2.1 (by omega)) g12 gM.2.1 t u x y ht hu ((ec_side_c gL.1 ht x y).mp s) ((ec_side_c gL.1 hu x y).mp s')
theorem ec_fix_eq (gL : ec_LR mn mc mr kc kf) {v w r r' : Int32} (h : ec_isB r (ec_hc mn v w ∧ (mr (mc (3 * ec_n v + ec_n w))).testBit (mc (3 * ec_n v + ec_nx (ec_n w))) = true)) (h' : ec_isB r' (ec_hc mn v w ∧ kf (3 * ec_n v + ec_n w))) : r = r' := by
  refine h.uniq (h'.iff ?_)
  constructor
  · rintro ⟨q, z⟩
    refine ⟨q, ?_⟩
    obtain ⟨t, k, ht, ht2, hk, rfl, rfl⟩ := ec_ofHC q
    rw [ec_n_nI ht2, ec_n_nI (by omega)] at z ⊢
    exact (gL.2 t k ht hk).mp z
  · rintro ⟨q, z⟩
    refine ⟨q, ?_⟩
    obtain ⟨t, k, ht, ht2, hk, rfl, rfl⟩ := ec_ofHC q
    rw [ec_n_nI ht2, ec_n_nI (by omega)] at z ⊢
    exact (gL.2 t k ht hk).mpr z
theorem ec_MI_mono {pn' : Nat} (gM : ec_MI pn mn mc mo mr) (h : pn ≤ pn') : ec_MI pn' mn mc mo mr := ⟨gM.1, fun i hi => Nat.lt_of_lt_of_le (gM.2.1 i hi) h, gM.2.2⟩
/-- after two builds: the numbers and corners are the same, and what is held -/
theorem ec_LR_build {ln : Nat} {lf lt : Nat → Nat} {K : Nat → Nat → Nat → Prop} {rk : Nat} (g12 : pn ≤ 12) (e1 : ec_En K mn mc 144) (e2 : ec_En K rk kc 144) (gM : ec_MI pn mn mc mo mr) (hL : ∀ a b, a < 12 → b < 12 → ((mr a).testBit b = true ↔ ec_E ln lf lt a b)) (fx : ec_fx (ec_E ln lf lt) rk kc kf) : mn = rk ∧ ec_LR mn mc mr kc kf := by
  have q := ec_En_unique e1 e2
  have h : ∀ i, i < 3 * mn → kc i = mc i := by
    intro i hi
    have z := q.2 (i / 3) (by omega)
    have : i % 3 = 0 ∨ i % 3 = 1 ∨ i % 3 = 2 := by omega
    rcases this with w | w | w
    · rw [show i = 3 * (i / 3) by omega]; exact z.1.symm
    · rw [show i = 3 * (i / 3) + 1 by omega]; exact z.2.1.symm
    · rw [show i = 3 * (i / 3) + 2 by omega]; exact z.2.2.symm
  refine ⟨q.1, h, fun t k ht hk => ?_⟩
  have hn := ec_nx_lt (k := k) (by omega)
  have b1 := gM.2.1 (3 * t + k) (by omega)
  have b2 := gM.2.1 (3 * t + ec_nx k) (by omega)
  rw [fx t k (by have := q.1; omega) hk, h (3 * t + k) (by omega), h (3 * t + ec_nx k) (by omega), hL _ _ (by omega) (by omega)]
end
section
variable {p : Program} {l : Launch} {e : Env} {R : Room} {s : State} {m : MethodId} {args : Array Value} {below : List Frame} {meth : Method} {c : Code} {H : Heap} {locs : List Loc} {cells slots : Nat} {Q : State → Prop} {cc : ByteArray} {pc : Nat} {ls : Array Slot} {rest : List Value} {A : Nat → Prop} {H0 : Heap}
theorem ec_sld (hx : p.tables.exec = Jvm.exec) (hb : c.code = cc) {b L : Nat} {xs : Nat → Int32} (hX : va_X b L xs s H0) (hbl : b < H0.size) (hbA : ¬ A b) (hS : va_S A H0 H locs) {i : Nat} (hi : i < L) (hL : L < 2 ^ 31) (hd : decode cc pc = .ok (.iaload, 1))
    (kk : W p l e R s m args below meth c H locs cells slots Q (F0 m (pc + 1) ls (.int (xs i) :: rest))) : W p l e R s m args below meth c H locs cells slots Q (F0 m pc ls (.int (nI i) :: .ref b :: rest)) := by
  refine va_sld hx hb hX hbl hbA hS (nI_in hi hL) hd ?_
  rw [nI_clamp (by omega)]
  exact kk
theorem ec_iinc5 (hx : p.tables.exec = Jvm.exec) (hb : c.code = cc) {i nL k x : Nat} {lv lv' : List (Nat × Value)} (hd : decode cc pc = .ok (.iinc i 5, 3)) (h : lv_has ls nL lv) (hk : lv[k]? = some (i, .int (nI x))) (hn : i < nL) (hl : (i, Value.int (nI (x + 5))) :: lv.filter (fun q => !(q.1 == i) && !(q.1 + 1 == i && q.2.category == 2)) = lv')
    (kk : ∀ ls' : Array Slot, lv_has ls' nL lv' → W p l e R s m args below meth c H locs cells slots Q (F0 m (pc + 3) ls' rest)) : W p l e R s m args below meth c H locs cells slots Q (F0 m pc ls rest) :=
  lv_iinc hx hb hd h hk (by rw [← nI_add]; rfl) hn hl kk
theorem ec_sw_in {x : Int32} {k : Nat} (hk : k < 17) (e : x = nI k) : ¬ x.toInt < 0 ∧ ¬ (16 : Int) < x.toInt ∧ (x.toInt - 0).toNat = k := by
  rw [e, nI_toInt (by omega)]; omega
theorem ec_sw_out {x : Int32} (h : ∀ k, k < 17 → ¬ x = nI k) : x.toInt < 0 ∨ (16 : Int) < x.toInt := by
  apply Classical.byContradiction; intro q
  have b := ec_bd x
  refine h x.toInt.toNat (by omega) (Int32.toInt_inj.mp ?_)
  rw [nI_toInt (by omega)]; omega
theorem ec_lt5 {L i : Nat} (hL : L ≤ 2560) (hi : i ≤ L) (h : ¬ nI L - nI 5 < nI i) : i + 5 ≤ L := by
  rw [Int32.lt_iff_toInt_lt, Jvm.Kit.i32_sub (by rw [nI_toInt (by omega), nI_toInt (by omega)]; omega) (by rw [nI_toInt (by omega), nI_toInt (by omega)]; omega), nI_toInt (by omega), nI_toInt (by omega), nI_toInt (by omega)] at h
  omega
end
