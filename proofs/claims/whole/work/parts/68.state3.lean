/-! the numbered triangles -/
section
variable {p : Program} {l : Launch} {e : Env} {R : Room} {s : State} {m : MethodId} {args : Array Value} {below : List Frame} {meth : Method} {c : Code} {H : Heap} {locs : List Loc} {cells slots : Nat} {Q : State → Prop} {cc : ByteArray} {pc : Nat} {ls : Array Slot} {rest : List Value}
theorem ec_oi_none {o : Option Nat} (ho : ∀ j, o = some j → j < 2 ^ 31) : ec_oi o = -1 ↔ o = none := by
  cases o with
  | none => exact ⟨fun _ => rfl, fun _ => rfl⟩
  | some j => exact ⟨fun h => absurd h (ec_m1_ne (ho j rfl)), fun h => by cases h⟩
theorem ec_icmp_neO (hx : p.tables.exec = Jvm.exec) (hb : c.code = cc) {o : Option Nat} (ho : ∀ j, o = some j → j < 2 ^ 31) {off : Int} {tgt : Nat} (hd : decode cc pc = .ok (.if_icmp .ne off, 3)) (ht : (pc : Int) + off = (tgt : Int))
    (kt : (∃ j, o = some j) → W p l e R s m args below meth c H locs cells slots Q (F0 m tgt ls (rest))) (kf : o = none → W p l e R s m args below meth c H locs cells slots Q (F0 m (pc + 3) ls (rest))) : W p l e R s m args below meth c H locs cells slots Q (F0 m pc ls (.int (-1) :: .int (ec_oi o) :: rest)) :=
  lv_icmp_ne hx hb hd ht (fun h => kt (by cases o with | none => exact absurd rfl h | some j => exact ⟨j, rfl⟩)) (fun h => kf ((ec_oi_none ho).mp h))
theorem ec_icmp_eqO (hx : p.tables.exec = Jvm.exec) (hb : c.code = cc) {o : Option Nat} (ho : ∀ j, o = some j → j < 2 ^ 31) {off : Int} {tgt : Nat} (hd : decode cc pc = .ok (.if_icmp .eq off, 3)) (ht : (pc : Int) + off = (tgt : Int))
    (kt : o = none → W p l e R s m args below meth c H locs cells slots Q (F0 m tgt ls (rest))) (kf : (∃ j, o = some j) → W p l e R s m args below meth c H locs cells slots Q (F0 m (pc + 3) ls (rest))) : W p l e R s m args below meth c H locs cells slots Q (F0 m pc ls (.int (-1) :: .int (ec_oi o) :: rest)) :=
  lv_icmp_eq hx hb hd ht (fun h => kt ((ec_oi_none ho).mp h)) (fun h => kf (by cases o with | none => exact absurd rfl h | some j => exact ⟨j, rfl⟩))
theorem ec_copyN (hexec : p.tables.exec = Jvm.exec) (hb : c.code = cc) (hml : c.maxLocals = ls.size) {own : String} {index : Nat} (hown : s.vm.findClass own = some m.cls) (hlink : (Cond.methodLink own index arraycopyName).before args s = true) (hnat : (Cond.native arraycopyName).before args s = true) (hstat : (Cond.static arraycopyName).before args s = true) (hini : (Cond.initialized "java/lang/System").before args s = true)
    {D : va_G} {cl : List vw_C} {A : Nat → Prop} {a : Nat} {tys : List (ClassId × FieldType)} {ws : va_W} {H0 : Heap} (hK : va_K D cl tys s) (hP : va_P D cl ws H) (hD : va_D A ws) (hS : va_S A H0 H locs) (q0 q1 t0 : Nat) {a0 : Nat} {c0 : ClassId} {n0 n1 : Nat} {f g : Nat → Nat} (ha0 : ws[q0]? = some (a0, .inl (c0, n0, .inl (fun j => nI (f j))))) (ha1 : ws[q1]? = some (a, .inl (c0, n1, .inl (fun j => nI (g j))))) (ht0 : tys[t0]? = some (c0, .int))
    {n : Nat} (h4 : n ≤ n0) (h5 : n ≤ n1) (hn : n < 2 ^ 31)
    (hframes : 1 ≤ R.frames) (hlocals : (rest.map fun v => v.category).sum + (nativeFrameWords "java/lang/System" "arraycopy" 5 + 11) ≤ R.locals) (hdg : decode cc pc = .ok (.invokestatic index, 3))
    (kk : ∀ (H1 : Heap) (locs1 : List Loc), va_P D cl (ws.set q1 (a, .inl (c0, n1, .inl (fun j => nI (va_cpy f g 0 0 n j))))) H1 → va_D A (ws.set q1 (a, .inl (c0, n1, .inl (fun j => nI (va_cpy f g 0 0 n j))))) → va_S A H0 H1 locs1 → W p l e R s m args below meth c H1 locs1 cells slots Q (F0 m (pc + 3) ls rest)) : W p l e R s m args below meth c H locs cells slots Q (F0 m pc ls (.int (nI n) :: .int (nI 0) :: .ref a :: .int (nI 0) :: .ref a0 :: rest)) := by
  have z : (nI 0).toNatClampNeg = 0 := nI_clamp (by omega)
  have zn : (nI n).toNatClampNeg = n := nI_clamp hn
  have e : (fun j => nI (va_cpy f g 0 0 n j)) = va_cpy (fun j => nI (f j)) (fun j => nI (g j)) 0 0 n := by
    funext j
    unfold va_cpy
    split <;> rfl
  refine va_copyi hexec hb hml hown hlink hnat hstat hini hK hP hD hS q0 q1 t0 t0 ha0 ha1 ht0 ht0 rfl (nI_pos (by omega)) (nI_pos (by omega)) (nI_pos hn) (by rw [z, zn]; omega) (by rw [z, zn]; omega) (fun i _ => rfl) hframes hlocals hdg ?_
  rw [z, zn, ← e]
  exact kk
end
def ec_nx (k : Nat) : Nat := if k = 2 then 0 else k + 1
theorem ec_nx_lt {k : Nat} (h : k ≤ 2) : ec_nx k ≤ 2 := by unfold ec_nx; split <;> omega
theorem ec_nx_2 {k : Nat} (h : k = 2) : ec_nx k = 0 := if_pos h
theorem ec_nx_n {k : Nat} (h : ¬ k = 2) : ec_nx k = k + 1 := if_neg h
theorem ec_ge0 {r : Int64} {z : Int} (e : r.toInt = z) (h : 0 ≤ r) : 0 ≤ z := by rw [Int64.le_iff_toInt_le, ec_L0, e] at h; exact h
theorem ec_lt0 {r : Int64} {z : Int} (e : r.toInt = z) (h : ¬ 0 ≤ r) : ¬ 0 ≤ z := by rw [Int64.le_iff_toInt_le, ec_L0, e] at h; exact h
/-- the turn from corner i over corner j to a place -/
def ec_lfc (px py : Nat → Int32) (i j : Nat) (vx vy : Int32) : Int := ec_lf (px i).toInt (py i).toInt (px j).toInt (py j).toInt vx.toInt vy.toInt
def ec_hold (px py : Nat → Int32) (mc : Nat → Nat) (t : Nat) (vx vy : Int32) : Prop :=
  0 ≤ ec_lfc px py (mc (3 * t + 0)) (mc (3 * t + ec_nx 0)) vx vy ∧ 0 ≤ ec_lfc px py (mc (3 * t + 1)) (mc (3 * t + ec_nx 1)) vx vy ∧ 0 ≤ ec_lfc px py (mc (3 * t + 2)) (mc (3 * t + ec_nx 2)) vx vy
def ec_deg (f : Nat → Nat) (v : Int32) : Nat → Nat
  | 0 => 0
  | k + 1 => ec_deg f v k + (if nI (f k) = v then 1 else 0)
theorem ec_deg_le (f : Nat → Nat) (v : Int32) (k : Nat) : ec_deg f v k ≤ k := by
  induction k with
  | zero => exact Nat.le_refl _
  | succ k ih => unfold ec_deg; split <;> omega
def ec_bey (mc : Nat → Nat) (mo : Nat → Option Nat) (t k : Nat) : Option Nat := mo (mc (3 * t + ec_nx k) * 12 + mc (3 * t + k))
def ec_op1 (mc : Nat → Nat) (mo : Nat → Option Nat) (t : Nat) : Nat := (if ec_bey mc mo t 0 = none then 1 else 0) + (if ec_bey mc mo t 1 = none then 1 else 0) + (if ec_bey mc mo t 2 = none then 1 else 0)
def ec_opn (mc : Nat → Nat) (mo : Nat → Option Nat) : Nat → Nat
  | 0 => 0
  | t + 1 => ec_opn mc mo t + ec_op1 mc mo t
theorem ec_opn_le (mc : Nat → Nat) (mo : Nat → Option Nat) (k : Nat) : ec_opn mc mo k ≤ 3 * k := by
  induction k with
  | zero => exact Nat.le_refl _
  | succ k ih => unfold ec_opn ec_op1; split <;> split <;> split <;> omega
theorem ec_nn {o : Option Nat} (h : ∃ j, o = some j) : ¬ o = none := by obtain ⟨j, rfl⟩ := h; exact fun q => by cases q
/-- what holds of the numbered triangles at all times -/
def ec_MI (pn mn : Nat) (mc : Nat → Nat) (mo : Nat → Option Nat) (mr : Nat → Nat) : Prop := mn ≤ 19 ∧ (∀ i, i < 3 * mn → mc i < pn) ∧ (0 < mn → ec_Ow mn mc mo) ∧ (∀ a, a < 12 → mr a < 4096)
theorem ec_Ow_lt {k : Nat} {c : Nat → Nat} {o : Nat → Option Nat} (h : ec_Ow k c o) {x y : Nat} (hx : x < 12) (hy : y < 12) {t : Nat} (q : o (x * 12 + y) = some t) : t < k := ((h x y hx hy t).mp q).1
theorem ec_z32 : (0 : Int32).toInt = 0 := by decide
theorem ec_lt32 {v : Int32} (h : v < 0) : v.toInt < 0 := by rw [Int32.lt_iff_toInt_lt, ec_z32] at h; exact h
theorem ec_nlt32 {v : Int32} (h : ¬ v < 0) : 0 ≤ v.toInt := by rw [Int32.lt_iff_toInt_lt, ec_z32] at h; omega
theorem ec_le32 {v : Int32} {n : Nat} (hn : n < 2 ^ 31) (h : nI n ≤ v) : (n : Int) ≤ v.toInt := by rw [Int32.le_iff_toInt_le, nI_toInt hn] at h; exact h
theorem ec_nle32 {v : Int32} {n : Nat} (hn : n < 2 ^ 31) (h : ¬ nI n ≤ v) : v.toInt < n := by rw [Int32.le_iff_toInt_le, nI_toInt hn] at h; omega
theorem ec_gt32 {v : Int32} {n : Nat} (hn : n < 2 ^ 31) (h : nI n < v) : (n : Int) < v.toInt := by rw [Int32.lt_iff_toInt_lt, nI_toInt hn] at h; exact h
theorem ec_ngt32 {v : Int32} {n : Nat} (hn : n < 2 ^ 31) (h : ¬ nI n < v) : v.toInt ≤ n := by rw [Int32.lt_iff_toInt_lt, nI_toInt hn] at h; omega
def ec_tc (mc : Nat → Nat) (mn i j k : Nat) : Nat → Nat := va_up (va_up (va_up mc (3 * mn) i) (3 * mn + 1) j) (3 * mn + 2) k
def ec_to (mo : Nat → Option Nat) (mn i j k : Nat) : Nat → Option Nat := va_up (va_up (va_up mo (i * 12 + j) (some mn)) (j * 12 + k) (some mn)) (k * 12 + i) (some mn)
