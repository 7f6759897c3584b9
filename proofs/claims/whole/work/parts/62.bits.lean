/-! bits of rows -/
theorem ec_nI_or (a b : Nat) : nI a ||| nI b = nI (a ||| b) := by
  apply Int32.toBitVec_inj.mp
  show BitVec.ofNat 32 a ||| BitVec.ofNat 32 b = BitVec.ofNat 32 (a ||| b)
  apply BitVec.eq_of_getLsbD_eq
  intro i hi
  simp [BitVec.getLsbD_ofNat, Nat.testBit_or, hi]
theorem ec_shl1 : ∀ j, j < 12 → nI 1 <<< (nI j &&& 31) = nI (2 ^ j) := by decide +kernel
theorem ec_bitor {x j : Nat} (hj : j < 12) : nI x ||| (nI 1 <<< (nI j &&& 31)) = nI (x ||| 2 ^ j) := by
  rw [ec_shl1 j hj, ec_nI_or]
theorem ec_sl : ∀ n, n < 32 → ((nI n &&& 31).toBitVec.smod 32).toNat = n := by decide +kernel
theorem ec_bit {x j : Nat} (hx : x < 4096) (hj : j < 12) : (nI x >>> (nI j &&& 31)) &&& nI 1 = nI (x / 2 ^ j % 2) := by
  rw [pk_shrN (by omega) _ j (ec_sl j (by omega))]
  have h : x / 2 ^ j < 2 ^ 32 := Nat.lt_of_le_of_lt (Nat.div_le_self _ _) (by omega)
  rw [pk_andN h 1 (by decide)]
theorem ec_join0 {x j : Nat} (hx : x < 4096) (hj : j < 12) (h : (nI x >>> (nI j &&& 31)) &&& nI 1 = 0) : ¬ x.testBit j = true := by
  rw [ec_bit hx hj, ← nI_0, nI_eq (by omega) (by omega)] at h
  rw [Nat.testBit_eq_decide_div_mod_eq]
  simp [h]
theorem ec_join1 {x j : Nat} (hx : x < 4096) (hj : j < 12) (h : ¬ (nI x >>> (nI j &&& 31)) &&& nI 1 = 0) : x.testBit j = true := by
  rw [ec_bit hx hj, ← nI_0, nI_eq (by omega) (by omega)] at h
  rw [Nat.testBit_eq_decide_div_mod_eq]
  have : x / 2 ^ j % 2 = 1 := by omega
  simp [this]
theorem ec_or_lt {x j : Nat} (hx : x < 4096) (hj : j < 12) : x ||| 2 ^ j < 4096 :=
  Nat.or_lt_two_pow (n := 12) hx ((Nat.pow_lt_pow_iff_right (by omega : 1 < 2)).mpr hj)
theorem ec_up_lt {r : Nat → Nat} (h : ∀ a, a < 12 → r a < 4096) {i j : Nat} (hj : j < 12) : ∀ a, a < 12 → va_up r i (r i ||| 2 ^ j) a < 4096 := by
  intro a ha
  by_cases e : a = i
  · subst e; rw [va_up_self]; exact ec_or_lt (h a ha) hj
  · rw [va_up_ne _ _ e]; exact h a ha
theorem ec_R_add2 {r : Nat → Nat} {E : Nat → Nat → Prop} {a b : Nat} (h : ec_R r E) (ha : a < 12) (hb : b < 12) (hab : a ≠ b) :
    ec_R (va_up (va_up r a (r a ||| 2 ^ b)) b (va_up r a (r a ||| 2 ^ b) b ||| 2 ^ a)) (ge_addE E a b) := by
  rw [va_up_ne r _ (Ne.symm hab)]; exact ec_R_add h ha hb hab
theorem ec_fill_step {α : Type} {g : Nat → α} {i : Nat} {z : α} (h : ∀ j, j < i → g j = z) : ∀ j, j < i + 1 → va_up g i z j = z := by
  intro j hj
  by_cases e : j = i
  · subst e; exact va_up_self _ _ _
  · rw [va_up_ne _ _ e]; exact h j (by omega)
theorem ec_agree_step {α : Type} {g f : Nat → α} {i : Nat} (h : ∀ j, j < i → g j = f j) : ∀ j, j < i + 1 → va_up g i (f i) j = f j := by
  intro j hj
  by_cases e : j = i
  · subst e; exact va_up_self _ _ _
  · rw [va_up_ne _ _ e]; exact h j (by omega)
theorem ec_E_succ {k : Nat} {f g : Nat → Nat} (x y : Nat) : ec_E (k + 1) f g x y ↔ ge_addE (ec_E k f g) (f k) (g k) x y := by
  have h := ec_E_add (k := k) (f := f) (g := g) (a := f k) (b := g k) x y
  rw [← h]
  refine ec_E_congr (fun i hi => ?_) (fun i hi => ?_) x y
  · by_cases e : i = k
    · subst e; exact (va_up_self _ _ _).symm
    · exact (va_up_ne _ _ e).symm
  · by_cases e : i = k
    · subst e; exact (va_up_self _ _ _).symm
    · exact (va_up_ne _ _ e).symm
theorem ec_E_0 {f g : Nat → Nat} (x y : Nat) : False ↔ ec_E 0 f g x y := ⟨fun h => h.elim, fun ⟨i, h, _⟩ => by omega⟩
theorem ec_Dk {A : Nat → Prop} {ws ws' : va_W} (hD : va_D A ws) (h : ws'.map (fun q => q.1) = ws.map (fun q => q.1)) : va_D A ws' := ec_Dm h hD
