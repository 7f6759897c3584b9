/-- a truth value: 1 where it holds, 0 where not -/
def ec_isB (r : Int32) (P : Prop) : Prop := (r = 1 ∧ P) ∨ (r = 0 ∧ ¬ P)
theorem ec_isB.t {P : Prop} (h : P) : ec_isB 1 P := Or.inl ⟨rfl, h⟩
theorem ec_isB.f {P : Prop} (h : ¬ P) : ec_isB 0 P := Or.inr ⟨rfl, h⟩
theorem ec_isB.iff {r : Int32} {P P' : Prop} (h : ec_isB r P) (e : P ↔ P') : ec_isB r P' := by
  rcases h with ⟨a, b⟩ | ⟨a, b⟩
  · exact Or.inl ⟨a, e.mp b⟩
  · exact Or.inr ⟨a, fun q => b (e.mpr q)⟩
theorem ec_isB.nar {r : Int32} {P : Prop} (h : ec_isB r P) : narrow .boolean (.int r) = .int r := by
  rcases h with ⟨a, b⟩ | ⟨a, b⟩ <;> subst a <;> rfl
theorem ec_isB.vnar {r : Int32} {P : Prop} (h : ec_isB r P) : vp_nar .boolean r = r := by
  rcases h with ⟨a, b⟩ | ⟨a, b⟩ <;> subst a <;> rfl
theorem ec_isB.eq0 {r : Int32} {P : Prop} (h : ec_isB r P) (e : r = 0) : ¬ P := by
  rcases h with ⟨a, b⟩ | ⟨a, b⟩
  · rw [a] at e; exact absurd e (by decide)
  · exact b
theorem ec_isB.ne0 {r : Int32} {P : Prop} (h : ec_isB r P) (e : ¬ r = 0) : P := by
  rcases h with ⟨a, b⟩ | ⟨a, b⟩
  · exact b
  · exact absurd a e
theorem ec_isB.uniq {r r' : Int32} {P : Prop} (h : ec_isB r P) (k : ec_isB r' P) : r = r' := by
  rcases h with ⟨a, b⟩ | ⟨a, b⟩ <;> rcases k with ⟨a', b'⟩ | ⟨a', b'⟩
  · rw [a, a']
  · exact absurd b b'
  · exact absurd b' b
  · rw [a, a']
/-- a number, or none: -1 -/
def ec_oi (o : Option Nat) : Int32 := match o with
  | none => -1
  | some j => nI j
noncomputable def ec_bp (P : Prop) : Int32 := @ite Int32 P (Classical.propDecidable P) 1 0
theorem ec_bp_t {P : Prop} (h : P) : ec_bp P = 1 := if_pos h
theorem ec_bp_f {P : Prop} (h : ¬ P) : ec_bp P = 0 := if_neg h
theorem ec_bp_is (P : Prop) : ec_isB (ec_bp P) P := by
  by_cases h : P
  · exact Or.inl ⟨ec_bp_t h, h⟩
  · exact Or.inr ⟨ec_bp_f h, h⟩
theorem ec_isB.bp {r : Int32} {P : Prop} (h : ec_isB r P) : r = ec_bp P := h.uniq (ec_bp_is P)
section
variable {p : Program} {l : Launch} {e : Env} {R : Room} {s : State} {m : MethodId} {args : Array Value} {below : List Frame} {meth : Method} {c : Code} {H : Heap} {locs : List Loc} {cells slots : Nat} {Q : State → Prop} {cc : ByteArray} {pc : Nat} {ls : Array Slot} {rest : List Value}
theorem ec_iadd (hx : p.tables.exec = Jvm.exec) (hb : c.code = cc) {x y : Nat} (hd : decode cc pc = .ok (.iadd, 1))
    (k : W p l e R s m args below meth c H locs cells slots Q (F0 m (pc + 1) ls (.int (nI (x + y)) :: rest))) : W p l e R s m args below meth c H locs cells slots Q (F0 m pc ls (.int (nI y) :: .int (nI x) :: rest)) := by
  refine lv_iadd hx hb hd ?_
  rw [nI_add]; exact k
theorem ec_imul (hx : p.tables.exec = Jvm.exec) (hb : c.code = cc) {x y : Nat} (hd : decode cc pc = .ok (.imul, 1))
    (k : W p l e R s m args below meth c H locs cells slots Q (F0 m (pc + 1) ls (.int (nI (x * y)) :: rest))) : W p l e R s m args below meth c H locs cells slots Q (F0 m pc ls (.int (nI y) :: .int (nI x) :: rest)) := by
  refine lv_imul hx hb hd ?_
  rw [pk_mul]; exact k
theorem ec_isub (hx : p.tables.exec = Jvm.exec) (hb : c.code = cc) {x y : Nat} (hd : decode cc pc = .ok (.isub, 1)) (hle : y ≤ x)
    (k : W p l e R s m args below meth c H locs cells slots Q (F0 m (pc + 1) ls (.int (nI (x - y)) :: rest))) : W p l e R s m args below meth c H locs cells slots Q (F0 m pc ls (.int (nI y) :: .int (nI x) :: rest)) := by
  refine lv_isub hx hb hd ?_
  rw [pk_sub hle]; exact k
theorem ec_iinc (hx : p.tables.exec = Jvm.exec) (hb : c.code = cc) {i nL k x : Nat} {lv lv' : List (Nat × Value)} (hd : decode cc pc = .ok (.iinc i 1, 3)) (h : lv_has ls nL lv) (hk : lv[k]? = some (i, .int (nI x))) (hn : i < nL) (hl : (i, Value.int (nI (x + 1))) :: lv.filter (fun q => !(q.1 == i) && !(q.1 + 1 == i && q.2.category == 2)) = lv')
    (kk : ∀ ls' : Array Slot, lv_has ls' nL lv' → W p l e R s m args below meth c H locs cells slots Q (F0 m (pc + 3) ls' rest)) : W p l e R s m args below meth c H locs cells slots Q (F0 m pc ls rest) :=
  lv_iinc hx hb hd h hk (by rw [← nI_1]; rfl) hn hl kk
theorem ec_icmp_eq (hx : p.tables.exec = Jvm.exec) (hb : c.code = cc) {x y : Nat} {off : Int} {tgt : Nat} (hd : decode cc pc = .ok (.if_icmp .eq off, 3)) (ht : (pc : Int) + off = (tgt : Int)) (bx : x < 2 ^ 31) (by' : y < 2 ^ 31)
    (kt : x = y → W p l e R s m args below meth c H locs cells slots Q (F0 m tgt ls (rest))) (kf : ¬ x = y → W p l e R s m args below meth c H locs cells slots Q (F0 m (pc + 3) ls (rest))) : W p l e R s m args below meth c H locs cells slots Q (F0 m pc ls (.int (nI y) :: .int (nI x) :: rest)) :=
  lv_icmp_eq hx hb hd ht (fun h => kt ((nI_eq bx by').mp h)) (fun h => kf (fun q => h ((nI_eq bx by').mpr q)))
theorem ec_icmp_ne (hx : p.tables.exec = Jvm.exec) (hb : c.code = cc) {x y : Nat} {off : Int} {tgt : Nat} (hd : decode cc pc = .ok (.if_icmp .ne off, 3)) (ht : (pc : Int) + off = (tgt : Int)) (bx : x < 2 ^ 31) (by' : y < 2 ^ 31)
    (kt : ¬ x = y → W p l e R s m args below meth c H locs cells slots Q (F0 m tgt ls (rest))) (kf : x = y → W p l e R s m args below meth c H locs cells slots Q (F0 m (pc + 3) ls (rest))) : W p l e R s m args below meth c H locs cells slots Q (F0 m pc ls (.int (nI y) :: .int (nI x) :: rest)) :=
  lv_icmp_ne hx hb hd ht (fun h => kt (fun q => h ((nI_eq bx by').mpr q))) (fun h => kf ((nI_eq bx by').mp h))
theorem ec_icmp_lt (hx : p.tables.exec = Jvm.exec) (hb : c.code = cc) {x y : Nat} {off : Int} {tgt : Nat} (hd : decode cc pc = .ok (.if_icmp .lt off, 3)) (ht : (pc : Int) + off = (tgt : Int)) (bx : x < 2 ^ 31) (by' : y < 2 ^ 31)
    (kt : x < y → W p l e R s m args below meth c H locs cells slots Q (F0 m tgt ls (rest))) (kf : y ≤ x → W p l e R s m args below meth c H locs cells slots Q (F0 m (pc + 3) ls (rest))) : W p l e R s m args below meth c H locs cells slots Q (F0 m pc ls (.int (nI y) :: .int (nI x) :: rest)) :=
  lv_icmp_lt hx hb hd ht (fun h => kt ((nI_ltI bx by').mp h)) (fun h => kf (Nat.le_of_not_lt fun q => h ((nI_ltI bx by').mpr q)))
theorem ec_icmp_ge (hx : p.tables.exec = Jvm.exec) (hb : c.code = cc) {x y : Nat} {off : Int} {tgt : Nat} (hd : decode cc pc = .ok (.if_icmp .ge off, 3)) (ht : (pc : Int) + off = (tgt : Int)) (bx : x < 2 ^ 31) (by' : y < 2 ^ 31)
    (kt : y ≤ x → W p l e R s m args below meth c H locs cells slots Q (F0 m tgt ls (rest))) (kf : x < y → W p l e R s m args below meth c H locs cells slots Q (F0 m (pc + 3) ls (rest))) : W p l e R s m args below meth c H locs cells slots Q (F0 m pc ls (.int (nI y) :: .int (nI x) :: rest)) :=
  lv_icmp_ge hx hb hd ht (fun h => kt ((nI_leI by' bx).mp h)) (fun h => kf (Nat.lt_of_not_le fun q => h ((nI_leI by' bx).mpr q)))
theorem ec_icmp_gt (hx : p.tables.exec = Jvm.exec) (hb : c.code = cc) {x y : Nat} {off : Int} {tgt : Nat} (hd : decode cc pc = .ok (.if_icmp .gt off, 3)) (ht : (pc : Int) + off = (tgt : Int)) (bx : x < 2 ^ 31) (by' : y < 2 ^ 31)
    (kt : y < x → W p l e R s m args below meth c H locs cells slots Q (F0 m tgt ls (rest))) (kf : x ≤ y → W p l e R s m args below meth c H locs cells slots Q (F0 m (pc + 3) ls (rest))) : W p l e R s m args below meth c H locs cells slots Q (F0 m pc ls (.int (nI y) :: .int (nI x) :: rest)) :=
  lv_icmp_gt hx hb hd ht (fun h => kt ((nI_ltI by' bx).mp h)) (fun h => kf (Nat.le_of_not_lt fun q => h ((nI_ltI by' bx).mpr q)))
theorem ec_icmp_le (hx : p.tables.exec = Jvm.exec) (hb : c.code = cc) {x y : Nat} {off : Int} {tgt : Nat} (hd : decode cc pc = .ok (.if_icmp .le off, 3)) (ht : (pc : Int) + off = (tgt : Int)) (bx : x < 2 ^ 31) (by' : y < 2 ^ 31)
    (kt : x ≤ y → W p l e R s m args below meth c H locs cells slots Q (F0 m tgt ls (rest))) (kf : y < x → W p l e R s m args below meth c H locs cells slots Q (F0 m (pc + 3) ls (rest))) : W p l e R s m args below meth c H locs cells slots Q (F0 m pc ls (.int (nI y) :: .int (nI x) :: rest)) :=
  lv_icmp_le hx hb hd ht (fun h => kt ((nI_leI bx by').mp h)) (fun h => kf (Nat.lt_of_not_le fun q => h ((nI_leI bx by').mpr q)))
theorem ec_if_lt (hx : p.tables.exec = Jvm.exec) (hb : c.code = cc) {x : Nat} {off : Int} {tgt : Nat} (hd : decode cc pc = .ok (.ifCond .lt off, 3)) (ht : (pc : Int) + off = (tgt : Int)) (bx : x < 2 ^ 31)
    (kf : W p l e R s m args below meth c H locs cells slots Q (F0 m (pc + 3) ls (rest))) : W p l e R s m args below meth c H locs cells slots Q (F0 m pc ls (.int (nI x) :: rest)) :=
  lv_if_lt hx hb hd ht (fun h => absurd h (nI_pos bx)) (fun _ => kf)
theorem ec_if_ge (hx : p.tables.exec = Jvm.exec) (hb : c.code = cc) {x : Nat} {off : Int} {tgt : Nat} (hd : decode cc pc = .ok (.ifCond .ge off, 3)) (ht : (pc : Int) + off = (tgt : Int)) (bx : x < 2 ^ 31)
    (kt : W p l e R s m args below meth c H locs cells slots Q (F0 m tgt ls (rest))) : W p l e R s m args below meth c H locs cells slots Q (F0 m pc ls (.int (nI x) :: rest)) :=
  lv_if_ge hx hb hd ht (fun _ => kt) (fun h => absurd (nI_pos' bx) h)
theorem ec_if_eq (hx : p.tables.exec = Jvm.exec) (hb : c.code = cc) {x : Nat} {off : Int} {tgt : Nat} (hd : decode cc pc = .ok (.ifCond .eq off, 3)) (ht : (pc : Int) + off = (tgt : Int)) (bx : x < 2 ^ 31)
    (kt : x = 0 → W p l e R s m args below meth c H locs cells slots Q (F0 m tgt ls (rest))) (kf : ¬ x = 0 → W p l e R s m args below meth c H locs cells slots Q (F0 m (pc + 3) ls (rest))) : W p l e R s m args below meth c H locs cells slots Q (F0 m pc ls (.int (nI x) :: rest)) :=
  lv_if_eq hx hb hd ht (fun h => kt (by rw [← nI_0] at h; exact (nI_eq bx (by omega)).mp h)) (fun h => kf (fun q => h (by rw [q]; exact nI_0)))
theorem ec_if_ne (hx : p.tables.exec = Jvm.exec) (hb : c.code = cc) {x : Nat} {off : Int} {tgt : Nat} (hd : decode cc pc = .ok (.ifCond .ne off, 3)) (ht : (pc : Int) + off = (tgt : Int)) (bx : x < 2 ^ 31)
    (kt : ¬ x = 0 → W p l e R s m args below meth c H locs cells slots Q (F0 m tgt ls (rest))) (kf : x = 0 → W p l e R s m args below meth c H locs cells slots Q (F0 m (pc + 3) ls (rest))) : W p l e R s m args below meth c H locs cells slots Q (F0 m pc ls (.int (nI x) :: rest)) :=
  lv_if_ne hx hb hd ht (fun h => kt (fun q => h (by rw [q]; exact nI_0))) (fun h => kf (by rw [← nI_0] at h; exact (nI_eq bx (by omega)).mp h))
theorem ec_if_eqB (hx : p.tables.exec = Jvm.exec) (hb : c.code = cc) {r : Int32} {P : Prop} (hB : ec_isB r P) {off : Int} {tgt : Nat} (hd : decode cc pc = .ok (.ifCond .eq off, 3)) (ht : (pc : Int) + off = (tgt : Int))
    (kt : ¬ P → W p l e R s m args below meth c H locs cells slots Q (F0 m tgt ls (rest))) (kf : P → W p l e R s m args below meth c H locs cells slots Q (F0 m (pc + 3) ls (rest))) : W p l e R s m args below meth c H locs cells slots Q (F0 m pc ls (.int r :: rest)) :=
  lv_if_eq hx hb hd ht (fun h => kt (hB.eq0 h)) (fun h => kf (hB.ne0 h))
theorem ec_if_neB (hx : p.tables.exec = Jvm.exec) (hb : c.code = cc) {r : Int32} {P : Prop} (hB : ec_isB r P) {off : Int} {tgt : Nat} (hd : decode cc pc = .ok (.ifCond .ne off, 3)) (ht : (pc : Int) + off = (tgt : Int))
    (kt : P → W p l e R s m args below meth c H locs cells slots Q (F0 m tgt ls (rest))) (kf : ¬ P → W p l e R s m args below meth c H locs cells slots Q (F0 m (pc + 3) ls (rest))) : W p l e R s m args below meth c H locs cells slots Q (F0 m pc ls (.int r :: rest)) :=
  lv_if_ne hx hb hd ht (fun h => kt (hB.ne0 h)) (fun h => kf (hB.eq0 h))
end
section
variable {p : Program} {l : Launch} {e : Env} {R : Room} {s : State} {m : MethodId} {args : Array Value} {below : List Frame} {meth : Method} {c : Code} {H : Heap} {locs : List Loc} {cells slots : Nat} {Q : State → Prop} {cc : ByteArray} {pc : Nat} {ls : Array Slot} {rest : List Value}
variable {D : va_G} {cl : List vw_C} {A : Nat → Prop} {a : Nat} {tys : List (ClassId × FieldType)} {ws : va_W} {H0 : Heap}
theorem ec_iald (hx : p.tables.exec = Jvm.exec) (hb : c.code = cc) (hK : va_K D cl tys s) (hP : va_P D cl ws H) (q0 t0 : Nat) {cA : ClassId} {n : Nat} {f : Nat → Int32} (ha : ws[q0]? = some (a, .inl (cA, n, .inl f))) (ht : tys[t0]? = some (cA, .int)) {i : Nat} (hi : i < n) (hn : n < 2 ^ 31) (hd : decode cc pc = .ok (.iaload, 1))
    (kk : W p l e R s m args below meth c H locs cells slots Q (F0 m (pc + 1) ls (.int (f i) :: rest))) : W p l e R s m args below meth c H locs cells slots Q (F0 m pc ls (.int (nI i) :: .ref a :: rest)) :=
  va_iald hx hb hK hP q0 t0 ha ht (vp_in_nI hi hn) hd (by rw [nI_clamp (Nat.lt_trans hi hn)]; exact kk)
theorem ec_zald (hx : p.tables.exec = Jvm.exec) (hb : c.code = cc) (hK : va_K D cl tys s) (hP : va_P D cl ws H) (q0 t0 : Nat) {cA : ClassId} {n : Nat} {f : Nat → Int32} (ha : ws[q0]? = some (a, .inl (cA, n, .inl f))) (ht : tys[t0]? = some (cA, .boolean)) {i : Nat} (hi : i < n) (hn : n < 2 ^ 31) (hd : decode cc pc = .ok (.baload, 1))
    (kk : W p l e R s m args below meth c H locs cells slots Q (F0 m (pc + 1) ls (.int (f i) :: rest))) : W p l e R s m args below meth c H locs cells slots Q (F0 m pc ls (.int (nI i) :: .ref a :: rest)) :=
  va_zald hx hb hK hP q0 t0 ha ht (vp_in_nI hi hn) hd (by rw [nI_clamp (Nat.lt_trans hi hn)]; exact kk)
theorem ec_lald (hx : p.tables.exec = Jvm.exec) (hb : c.code = cc) (hK : va_K D cl tys s) (hP : va_P D cl ws H) (q0 t0 : Nat) {cA : ClassId} {n : Nat} {f : Nat → Int64} (ha : ws[q0]? = some (a, .inl (cA, n, .inr (.inl f)))) (ht : tys[t0]? = some (cA, .long)) {i : Nat} (hi : i < n) (hn : n < 2 ^ 31) (hd : decode cc pc = .ok (.laload, 1))
    (kk : W p l e R s m args below meth c H locs cells slots Q (F0 m (pc + 1) ls (.long (f i) :: rest))) : W p l e R s m args below meth c H locs cells slots Q (F0 m pc ls (.int (nI i) :: .ref a :: rest)) :=
  va_lald hx hb hK hP q0 t0 ha ht (vp_in_nI hi hn) hd (by rw [nI_clamp (Nat.lt_trans hi hn)]; exact kk)
theorem ec_iast (hx : p.tables.exec = Jvm.exec) (hb : c.code = cc) (hK : va_K D cl tys s) (hP : va_P D cl ws H) (hD : va_D A ws) (hS : va_S A H0 H locs) (q0 t0 : Nat) {cA : ClassId} {n : Nat} {f : Nat → Int32} (ha : ws[q0]? = some (a, .inl (cA, n, .inl f))) (ht : tys[t0]? = some (cA, .int)) {i : Nat} {x : Int32} (hi : i < n) (hn : n < 2 ^ 31) (hd : decode cc pc = .ok (.iastore, 1))
    (kk : ∀ (H1 : Heap) (locs1 : List Loc), va_P D cl (ws.set q0 (a, .inl (cA, n, .inl (upd f i x)))) H1 → va_D A (ws.set q0 (a, .inl (cA, n, .inl (upd f i x)))) → va_S A H0 H1 locs1 → W p l e R s m args below meth c H1 locs1 cells slots Q (F0 m (pc + 1) ls rest)) : W p l e R s m args below meth c H locs cells slots Q (F0 m pc ls (.int x :: .int (nI i) :: .ref a :: rest)) := by
  refine va_iast hx hb hK hP hD hS q0 t0 ha ht (vp_in_nI hi hn) hd ?_
  rw [nI_clamp (Nat.lt_trans hi hn)]; exact kk
theorem ec_zast (hx : p.tables.exec = Jvm.exec) (hb : c.code = cc) (hK : va_K D cl tys s) (hP : va_P D cl ws H) (hD : va_D A ws) (hS : va_S A H0 H locs) (q0 t0 : Nat) {cA : ClassId} {n : Nat} {f : Nat → Int32} (ha : ws[q0]? = some (a, .inl (cA, n, .inl f))) (ht : tys[t0]? = some (cA, .boolean)) {i : Nat} {x : Int32} (hi : i < n) (hn : n < 2 ^ 31) (hnar : vp_nar .boolean x = x) (hd : decode cc pc = .ok (.bastore, 1))
    (kk : ∀ (H1 : Heap) (locs1 : List Loc), va_P D cl (ws.set q0 (a, .inl (cA, n, .inl (upd f i x)))) H1 → va_D A (ws.set q0 (a, .inl (cA, n, .inl (upd f i x)))) → va_S A H0 H1 locs1 → W p l e R s m args below meth c H1 locs1 cells slots Q (F0 m (pc + 1) ls rest)) : W p l e R s m args below meth c H locs cells slots Q (F0 m pc ls (.int x :: .int (nI i) :: .ref a :: rest)) := by
  refine va_zast hx hb hK hP hD hS q0 t0 ha ht (vp_in_nI hi hn) hd ?_
  rw [nI_clamp (Nat.lt_trans hi hn), hnar]; exact kk
theorem ec_last (hx : p.tables.exec = Jvm.exec) (hb : c.code = cc) (hK : va_K D cl tys s) (hP : va_P D cl ws H) (hD : va_D A ws) (hS : va_S A H0 H locs) (q0 t0 : Nat) {cA : ClassId} {n : Nat} {f : Nat → Int64} (ha : ws[q0]? = some (a, .inl (cA, n, .inr (.inl f)))) (ht : tys[t0]? = some (cA, .long)) {i : Nat} {x : Int64} (hi : i < n) (hn : n < 2 ^ 31) (hd : decode cc pc = .ok (.lastore, 1))
    (kk : ∀ (H1 : Heap) (locs1 : List Loc), va_P D cl (ws.set q0 (a, .inl (cA, n, .inr (.inl (vp_updL f i x))))) H1 → va_D A (ws.set q0 (a, .inl (cA, n, .inr (.inl (vp_updL f i x))))) → va_S A H0 H1 locs1 → W p l e R s m args below meth c H1 locs1 cells slots Q (F0 m (pc + 1) ls rest)) : W p l e R s m args below meth c H locs cells slots Q (F0 m pc ls (.long x :: .int (nI i) :: .ref a :: rest)) := by
  refine va_last hx hb hK hP hD hS q0 t0 ha ht (vp_in_nI hi hn) hd ?_
  rw [nI_clamp (Nat.lt_trans hi hn)]; exact kk
theorem ec_ialdN (hx : p.tables.exec = Jvm.exec) (hb : c.code = cc) (hK : va_K D cl tys s) (hP : va_P D cl ws H) (q0 t0 : Nat) {cA : ClassId} {n : Nat} {f : Nat → Nat} (ha : ws[q0]? = some (a, .inl (cA, n, .inl (fun j => nI (f j))))) (ht : tys[t0]? = some (cA, .int)) {i : Nat} (hi : i < n) (hn : n < 2 ^ 31) (hd : decode cc pc = .ok (.iaload, 1))
    (kk : W p l e R s m args below meth c H locs cells slots Q (F0 m (pc + 1) ls (.int (nI (f i)) :: rest))) : W p l e R s m args below meth c H locs cells slots Q (F0 m pc ls (.int (nI i) :: .ref a :: rest)) :=
  ec_iald hx hb hK hP q0 t0 ha ht hi hn hd kk
theorem ec_ialdO (hx : p.tables.exec = Jvm.exec) (hb : c.code = cc) (hK : va_K D cl tys s) (hP : va_P D cl ws H) (q0 t0 : Nat) {cA : ClassId} {n : Nat} {f : Nat → Option Nat} (ha : ws[q0]? = some (a, .inl (cA, n, .inl (fun j => ec_oi (f j))))) (ht : tys[t0]? = some (cA, .int)) {i : Nat} (hi : i < n) (hn : n < 2 ^ 31) (hd : decode cc pc = .ok (.iaload, 1))
    (kk : W p l e R s m args below meth c H locs cells slots Q (F0 m (pc + 1) ls (.int (ec_oi (f i)) :: rest))) : W p l e R s m args below meth c H locs cells slots Q (F0 m pc ls (.int (nI i) :: .ref a :: rest)) :=
  ec_iald hx hb hK hP q0 t0 ha ht hi hn hd kk
theorem ec_zaldZ (hx : p.tables.exec = Jvm.exec) (hb : c.code = cc) (hK : va_K D cl tys s) (hP : va_P D cl ws H) (q0 t0 : Nat) {cA : ClassId} {n : Nat} {f : Nat → Prop} (ha : ws[q0]? = some (a, .inl (cA, n, .inl (fun j => ec_bp (f j))))) (ht : tys[t0]? = some (cA, .boolean)) {i : Nat} (hi : i < n) (hn : n < 2 ^ 31) (hd : decode cc pc = .ok (.baload, 1))
    (kk : W p l e R s m args below meth c H locs cells slots Q (F0 m (pc + 1) ls (.int (ec_bp (f i)) :: rest))) : W p l e R s m args below meth c H locs cells slots Q (F0 m pc ls (.int (nI i) :: .ref a :: rest)) :=
  ec_zald hx hb hK hP q0 t0 ha ht hi hn hd kk
theorem ec_iastN (hx : p.tables.exec = Jvm.exec) (hb : c.code = cc) (hK : va_K D cl tys s) (hP : va_P D cl ws H) (hD : va_D A ws) (hS : va_S A H0 H locs) (q0 t0 : Nat) {cA : ClassId} {n : Nat} {f : Nat → Nat} (ha : ws[q0]? = some (a, .inl (cA, n, .inl (fun j => nI (f j))))) (ht : tys[t0]? = some (cA, .int)) {i : Nat} {x : Nat} {z : Int32} (hz : z = nI x) (hi : i < n) (hn : n < 2 ^ 31) (hd : decode cc pc = .ok (.iastore, 1))
    (kk : ∀ (H1 : Heap) (locs1 : List Loc), va_P D cl (ws.set q0 (a, .inl (cA, n, .inl (fun j => nI (va_up f i x j))))) H1 → va_D A (ws.set q0 (a, .inl (cA, n, .inl (fun j => nI (va_up f i x j))))) → va_S A H0 H1 locs1 → W p l e R s m args below meth c H1 locs1 cells slots Q (F0 m (pc + 1) ls rest)) : W p l e R s m args below meth c H locs cells slots Q (F0 m pc ls (.int z :: .int (nI i) :: .ref a :: rest)) := by
  subst hz
  have e : (fun j => nI (va_up f i x j)) = upd (fun j => nI (f j)) i (nI x) := by
    funext j
    unfold upd va_up
    split <;> rfl
  refine ec_iast hx hb hK hP hD hS q0 t0 ha ht hi hn hd ?_
  rw [← e]; exact kk
theorem ec_iastO (hx : p.tables.exec = Jvm.exec) (hb : c.code = cc) (hK : va_K D cl tys s) (hP : va_P D cl ws H) (hD : va_D A ws) (hS : va_S A H0 H locs) (q0 t0 : Nat) {cA : ClassId} {n : Nat} {f : Nat → Option Nat} (ha : ws[q0]? = some (a, .inl (cA, n, .inl (fun j => ec_oi (f j))))) (ht : tys[t0]? = some (cA, .int)) {i : Nat} {x : Option Nat} {z : Int32} (hz : z = ec_oi x) (hi : i < n) (hn : n < 2 ^ 31) (hd : decode cc pc = .ok (.iastore, 1))
    (kk : ∀ (H1 : Heap) (locs1 : List Loc), va_P D cl (ws.set q0 (a, .inl (cA, n, .inl (fun j => ec_oi (va_up f i x j))))) H1 → va_D A (ws.set q0 (a, .inl (cA, n, .inl (fun j => ec_oi (va_up f i x j))))) → va_S A H0 H1 locs1 → W p l e R s m args below meth c H1 locs1 cells slots Q (F0 m (pc + 1) ls rest)) : W p l e R s m args below meth c H locs cells slots Q (F0 m pc ls (.int z :: .int (nI i) :: .ref a :: rest)) := by
  subst hz
  have e : (fun j => ec_oi (va_up f i x j)) = upd (fun j => ec_oi (f j)) i (ec_oi x) := by
    funext j
    unfold upd va_up
    split <;> rfl
  refine ec_iast hx hb hK hP hD hS q0 t0 ha ht hi hn hd ?_
  rw [← e]; exact kk
theorem ec_zastZ (hx : p.tables.exec = Jvm.exec) (hb : c.code = cc) (hK : va_K D cl tys s) (hP : va_P D cl ws H) (hD : va_D A ws) (hS : va_S A H0 H locs) (q0 t0 : Nat) {cA : ClassId} {n : Nat} {f : Nat → Prop} (ha : ws[q0]? = some (a, .inl (cA, n, .inl (fun j => ec_bp (f j))))) (ht : tys[t0]? = some (cA, .boolean)) {i : Nat} {x : Prop} {z : Int32} (hz : z = ec_bp x) (hi : i < n) (hn : n < 2 ^ 31) (hd : decode cc pc = .ok (.bastore, 1))
    (kk : ∀ (H1 : Heap) (locs1 : List Loc), va_P D cl (ws.set q0 (a, .inl (cA, n, .inl (fun j => ec_bp (va_up f i x j))))) H1 → va_D A (ws.set q0 (a, .inl (cA, n, .inl (fun j => ec_bp (va_up f i x j))))) → va_S A H0 H1 locs1 → W p l e R s m args below meth c H1 locs1 cells slots Q (F0 m (pc + 1) ls rest)) : W p l e R s m args below meth c H locs cells slots Q (F0 m pc ls (.int z :: .int (nI i) :: .ref a :: rest)) := by
  subst hz
  have e : (fun j => ec_bp (va_up f i x j)) = upd (fun j => ec_bp (f j)) i (ec_bp x) := by
    funext j
    unfold upd va_up
    split <;> rfl
  refine ec_zast hx hb hK hP hD hS q0 t0 ha ht hi hn (ec_bp_is x).vnar hd ?_
  rw [← e]; exact kk
end
theorem ec_Dm {A : Nat → Prop} {ws ws' : va_W} (h : ws'.map (fun q => q.1) = ws.map (fun q => q.1)) (hD : va_D A ws) : va_D A ws' := by
  have key : ∀ (k : Nat) (q : Nat × va_E), ws'[k]? = some q → ∃ e, ws[k]? = some (q.1, e) := by
    intro k q hq
    have h1 : (ws'.map (fun q => q.1))[k]? = some q.1 := by rw [List.getElem?_map, hq]; rfl
    rw [h, List.getElem?_map] at h1
    cases hw : ws[k]? with
    | none => rw [hw] at h1; cases h1
    | some z =>
      rw [hw] at h1
      have : z.1 = q.1 := by simpa using h1
      exact ⟨z.2, by rw [← this]⟩
  refine ⟨fun i j p q hp hq he => ?_, fun k q hq => ?_⟩
  · obtain ⟨e1, h1⟩ := key i p hp
    obtain ⟨e2, h2⟩ := key j q hq
    exact hD.1 i j _ _ h1 h2 he
  · obtain ⟨e1, h1⟩ := key k q hq
    exact hD.2 k (q.1, e1) h1
/-- the words that a method may take along: those that stay, and the links to a nest mate's fields -/
def ec_okw : Cond → Bool
  | .fieldLinkNest .. => true
  | w => goodWord w
def ec_tbl : List Cond := lw_tbl.filter ec_okw
theorem ec_in {w : Cond} (h : w ∈ lw_tbl) (k : ec_okw w = true) : w ∈ ec_tbl := List.mem_filter.mpr ⟨h, k⟩
theorem ec_warm {args a' : Array Value} {s U : State} (hW : s.WarmedH U.vm) {w : Cond} (hw : w ∈ ec_tbl) (h : w.before args s = true) : w.before a' U = true := by
  have hk := (List.mem_filter.mp hw).2
  cases w <;> first | exact va_Nw.use rfl (va_Nw.warmF hW (va_Nw.of rfl h)) | exact word_at hW (good_of_word hk) h
theorem ec_blind {av : List Value} {D : va_G} {cl : List vw_C} {tys : List (ClassId × FieldType)} {w : va_W} : FrameBlind (va_Pc av (fun U => va_P D cl w U.heap ∧ va_K D cl tys U)) := fun a U g mk q => by
  obtain ⟨q0, qP, qK⟩ := q
  exact ⟨q0, qP, va_K.moved (u := U) (U := U.calling g mk a) (Vm.Alike.refl U.vm) qK⟩
theorem ec_blindT {av : List Value} : FrameBlind (va_Pc av (fun _ => True)) := fun _ _ _ _ q => q
/-- a method that is called: its code, its class ready, its parameters -/
def ec_Ky (y : MethodName) (bytes : ByteArray) (maxL : Nat) (ret : Option FieldType) (n : Nat) : Prop :=
  Cond.code y bytes maxL ret ∈ ec_tbl ∧ Cond.initialized y.cls ∈ ec_tbl ∧ (y.cls ≠ "java/lang/invoke/MethodHandle" ∧ y.cls ≠ "java/lang/invoke/VarHandle") ∧ (parseMethodDescriptor y.desc).map (fun d => d.parameters.length) = some n
def ec_Kv (C : String) (y : MethodName) (bytes : ByteArray) (maxL : Nat) (ret : Option FieldType) (n : Nat) : Prop :=
  ec_Ky y bytes maxL ret n ∧ Cond.instanceMethod y ∈ ec_tbl ∧ Cond.selects C y y ∈ ec_tbl
def ec_Ks (y : MethodName) (bytes : ByteArray) (maxL : Nat) (ret : Option FieldType) (n : Nat) : Prop :=
  ec_Ky y bytes maxL ret n ∧ Cond.static y ∈ ec_tbl
def ec_Ki (y : MethodName) (bytes : ByteArray) (maxL : Nat) (n : Nat) : Prop :=
  ec_Ky y bytes maxL none n ∧ Cond.instanceMethod y ∈ ec_tbl
theorem ec_CB {R : Room} {s : State} {args : Array Value} {own : String} {index maxL mc ms n : Nat} {y : MethodName} {bytes : ByteArray} {ret : Option FieldType} {rm : Room} (htb : ∀ w ∈ ec_tbl, w.before args s = true) (K : ec_Ky y bytes maxL ret n) (hl : Cond.methodLink own index y ∈ ec_tbl)
    (hR : rm.frames + 1 ≤ R.frames ∧ 8 + (maxL + 11) + rm.locals ≤ R.locals) (hz : rm.cells = mc ∧ rm.slots = ms) : CallB R s args own index y bytes maxL ret (Cond.code y bytes maxL ret :: ec_tbl) rm mc ms n := by
  obtain ⟨hc, hi, hy, hp⟩ := K
  refine ⟨hz.1, hz.2, hR.1, hR.2, fun w hw a' U hW => ?_, List.mem_cons_self, htb _ hc, htb _ hi, hy, fun sig h => ?_, htb _ hl⟩
  · rcases List.mem_cons.mp hw with e | e
    · rw [e]; exact ec_warm hW hc (htb _ hc)
    · exact ec_warm hW e (htb _ e)
  · rw [h] at hp
    exact (Option.some.inj hp).symm
section
variable {p : Program} {l : Launch} {e : Env} {R : Room} {s : State} {m : MethodId} {args : Array Value} {below : List Frame} {meth : Method} {c : Code} {H : Heap} {locs : List Loc} {cells slots : Nat} {Q : State → Prop} {cc : ByteArray} {pc : Nat} {ls : Array Slot} {rest : List Value}
variable {D : va_G} {cl : List vw_C} {A : Nat → Prop} {tys : List (ClassId × FieldType)} {w : va_W} {H0 : Heap} {y : MethodName} {bytes : ByteArray} {maxL nL n index : Nat} {ret : Option FieldType} {rm : Room} {own C : String} {b : Nat} {As st0 : List Value}
theorem ec_vSi {post : Int32 → Prop} (S : CallFix p m c cc nL s args ec_tbl own) (hM : Met l y (Cond.code y bytes maxL ret :: ec_tbl) rm (va_Pc (.ref b :: As) (fun U => va_P D cl w U.heap ∧ va_K D cl tys U)) (vp_Si post) 0 0 (fun _ => False)) (K : ec_Kv C y bytes maxL ret n) (hK : va_K D cl tys s) (hP : va_P D cl w H) {q0 ci : Nat} {q : vw_C} {fs : List Value} (hc : cl[ci]? = some q) (hC : q.1 = C) (he : w[q0]? = some (b, .inr (ci, fs))) (hl : Cond.methodLink own index y ∈ ec_tbl) (hR : rm.frames + 1 ≤ R.frames ∧ 8 + (maxL + 11) + rm.locals ≤ R.locals) (hz : rm.cells = 0 ∧ rm.slots = 0) (hn : As.length = n) (hsize : ls.size = nL) (hstack : st0 = As.reverse ++ .ref b :: rest) (hW : (rest.map fun v => v.category).sum ≤ 8) (hd : decode cc pc = .ok (.invokevirtual index, 3)) (hf : cells ≤ R.cells ∧ slots ≤ R.slots)
    (kk : ∀ r : Int32, post r → W p l e R s m args below meth c H locs cells slots Q (F0 m (pc + 3) ls (.int r :: rest))) : W p l e R s m args below meth c H locs cells slots Q (F0 m pc ls st0) := by
  subst hC
  exact vp_callSi (va_Run.run (va_runV (As := As) (rest := rest) S hM ⟨ec_CB S.2.2.2.2 K.1 hl hR hz, S.2.2.2.2 _ K.2.1, S.2.2.2.2 _ K.2.2⟩ ⟨ec_blind, va_recv hK hP hc he, fun U hU hW => ⟨rfl, by rw [hU]; exact hP, va_K.moved hW.alike hK⟩⟩ rfl hn hsize hstack (lv_room hW) hd hf)) kk
theorem ec_vSl {post : Int64 → Prop} (S : CallFix p m c cc nL s args ec_tbl own) (hM : Met l y (Cond.code y bytes maxL ret :: ec_tbl) rm (va_Pc (.ref b :: As) (fun U => va_P D cl w U.heap ∧ va_K D cl tys U)) (vp_Sl post) 0 0 (fun _ => False)) (K : ec_Kv C y bytes maxL ret n) (hK : va_K D cl tys s) (hP : va_P D cl w H) {q0 ci : Nat} {q : vw_C} {fs : List Value} (hc : cl[ci]? = some q) (hC : q.1 = C) (he : w[q0]? = some (b, .inr (ci, fs))) (hl : Cond.methodLink own index y ∈ ec_tbl) (hR : rm.frames + 1 ≤ R.frames ∧ 8 + (maxL + 11) + rm.locals ≤ R.locals) (hz : rm.cells = 0 ∧ rm.slots = 0) (hn : As.length = n) (hsize : ls.size = nL) (hstack : st0 = As.reverse ++ .ref b :: rest) (hW : (rest.map fun v => v.category).sum ≤ 8) (hd : decode cc pc = .ok (.invokevirtual index, 3)) (hf : cells ≤ R.cells ∧ slots ≤ R.slots)
    (kk : ∀ r : Int64, post r → W p l e R s m args below meth c H locs cells slots Q (F0 m (pc + 3) ls (.long r :: rest))) : W p l e R s m args below meth c H locs cells slots Q (F0 m pc ls st0) := by
  subst hC
  exact vp_callSl (va_Run.run (va_runV (As := As) (rest := rest) S hM ⟨ec_CB S.2.2.2.2 K.1 hl hR hz, S.2.2.2.2 _ K.2.1, S.2.2.2.2 _ K.2.2⟩ ⟨ec_blind, va_recv hK hP hc he, fun U hU hW => ⟨rfl, by rw [hU]; exact hP, va_K.moved hW.alike hK⟩⟩ rfl hn hsize hstack (lv_room hW) hd hf)) kk
theorem ec_vQi {S' : Type} {w' : S' → va_W} {post : Int32 → S' → Prop} (S : CallFix p m c cc nL s args ec_tbl own) (hM : Met l y (Cond.code y bytes maxL ret :: ec_tbl) rm (va_Pc (.ref b :: As) (fun U => va_P D cl w U.heap ∧ va_K D cl tys U)) (va_Qi post (fun u t => va_P D cl (w' u) t.heap) A) 0 0 A) (K : ec_Kv C y bytes maxL ret n) (hK : va_K D cl tys s) (hP : va_P D cl w H) {q0 ci : Nat} {q : vw_C} {fs : List Value} (hc : cl[ci]? = some q) (hC : q.1 = C) (he : w[q0]? = some (b, .inr (ci, fs))) (hS : va_S A H0 H locs) (hl : Cond.methodLink own index y ∈ ec_tbl) (hR : rm.frames + 1 ≤ R.frames ∧ 8 + (maxL + 11) + rm.locals ≤ R.locals) (hz : rm.cells = 0 ∧ rm.slots = 0) (hn : As.length = n) (hsize : ls.size = nL) (hstack : st0 = As.reverse ++ .ref b :: rest) (hW : (rest.map fun v => v.category).sum ≤ 8) (hd : decode cc pc = .ok (.invokevirtual index, 3)) (hf : cells ≤ R.cells ∧ slots ≤ R.slots)
    (kk : ∀ (r : Int32) (u : S') (H1 : Heap) (locs1 : List Loc), post r u → va_P D cl (w' u) H1 → va_S A H0 H1 locs1 → W p l e R s m args below meth c H1 locs1 cells slots Q (F0 m (pc + 3) ls (.int r :: rest))) : W p l e R s m args below meth c H locs cells slots Q (F0 m pc ls st0) := by
  subst hC
  exact va_calli (va_runV (As := As) (rest := rest) S hM ⟨ec_CB S.2.2.2.2 K.1 hl hR hz, S.2.2.2.2 _ K.2.1, S.2.2.2.2 _ K.2.2⟩ ⟨ec_blind, va_recv hK hP hc he, fun U hU hW => ⟨rfl, by rw [hU]; exact hP, va_K.moved hW.alike hK⟩⟩ rfl hn hsize hstack (lv_room hW) hd hf) hS (fun q _ h => h) (fun q h => h) (fun r u t H1 locs1 ht _ hp hB _ _ hS => kk r u H1 locs1 hp (by rw [← ht]; exact hB) hS)
theorem ec_vQl {S' : Type} {w' : S' → va_W} {post : Int64 → S' → Prop} (S : CallFix p m c cc nL s args ec_tbl own) (hM : Met l y (Cond.code y bytes maxL ret :: ec_tbl) rm (va_Pc (.ref b :: As) (fun U => va_P D cl w U.heap ∧ va_K D cl tys U)) (va_Ql post (fun u t => va_P D cl (w' u) t.heap) A) 0 0 A) (K : ec_Kv C y bytes maxL ret n) (hK : va_K D cl tys s) (hP : va_P D cl w H) {q0 ci : Nat} {q : vw_C} {fs : List Value} (hc : cl[ci]? = some q) (hC : q.1 = C) (he : w[q0]? = some (b, .inr (ci, fs))) (hS : va_S A H0 H locs) (hl : Cond.methodLink own index y ∈ ec_tbl) (hR : rm.frames + 1 ≤ R.frames ∧ 8 + (maxL + 11) + rm.locals ≤ R.locals) (hz : rm.cells = 0 ∧ rm.slots = 0) (hn : As.length = n) (hsize : ls.size = nL) (hstack : st0 = As.reverse ++ .ref b :: rest) (hW : (rest.map fun v => v.category).sum ≤ 8) (hd : decode cc pc = .ok (.invokevirtual index, 3)) (hf : cells ≤ R.cells ∧ slots ≤ R.slots)
    (kk : ∀ (r : Int64) (u : S') (H1 : Heap) (locs1 : List Loc), post r u → va_P D cl (w' u) H1 → va_S A H0 H1 locs1 → W p l e R s m args below meth c H1 locs1 cells slots Q (F0 m (pc + 3) ls (.long r :: rest))) : W p l e R s m args below meth c H locs cells slots Q (F0 m pc ls st0) := by
  subst hC
  exact va_calll (va_runV (As := As) (rest := rest) S hM ⟨ec_CB S.2.2.2.2 K.1 hl hR hz, S.2.2.2.2 _ K.2.1, S.2.2.2.2 _ K.2.2⟩ ⟨ec_blind, va_recv hK hP hc he, fun U hU hW => ⟨rfl, by rw [hU]; exact hP, va_K.moved hW.alike hK⟩⟩ rfl hn hsize hstack (lv_room hW) hd hf) hS (fun q _ h => h) (fun q h => h) (fun r u t H1 locs1 ht _ hp hB _ _ hS => kk r u H1 locs1 hp (by rw [← ht]; exact hB) hS)
theorem ec_vQv {S' : Type} {w' : S' → va_W} {post : S' → Prop} (S : CallFix p m c cc nL s args ec_tbl own) (hM : Met l y (Cond.code y bytes maxL ret :: ec_tbl) rm (va_Pc (.ref b :: As) (fun U => va_P D cl w U.heap ∧ va_K D cl tys U)) (va_Qv post (fun u t => va_P D cl (w' u) t.heap) A) 0 0 A) (K : ec_Kv C y bytes maxL ret n) (hK : va_K D cl tys s) (hP : va_P D cl w H) {q0 ci : Nat} {q : vw_C} {fs : List Value} (hc : cl[ci]? = some q) (hC : q.1 = C) (he : w[q0]? = some (b, .inr (ci, fs))) (hS : va_S A H0 H locs) (hl : Cond.methodLink own index y ∈ ec_tbl) (hR : rm.frames + 1 ≤ R.frames ∧ 8 + (maxL + 11) + rm.locals ≤ R.locals) (hz : rm.cells = 0 ∧ rm.slots = 0) (hn : As.length = n) (hsize : ls.size = nL) (hstack : st0 = As.reverse ++ .ref b :: rest) (hW : (rest.map fun v => v.category).sum ≤ 8) (hd : decode cc pc = .ok (.invokevirtual index, 3)) (hf : cells ≤ R.cells ∧ slots ≤ R.slots)
    (kk : ∀ (u : S') (H1 : Heap) (locs1 : List Loc), post u → va_P D cl (w' u) H1 → va_S A H0 H1 locs1 → W p l e R s m args below meth c H1 locs1 cells slots Q (F0 m (pc + 3) ls (rest))) : W p l e R s m args below meth c H locs cells slots Q (F0 m pc ls st0) := by
  subst hC
  exact va_callv (va_runV (As := As) (rest := rest) S hM ⟨ec_CB S.2.2.2.2 K.1 hl hR hz, S.2.2.2.2 _ K.2.1, S.2.2.2.2 _ K.2.2⟩ ⟨ec_blind, va_recv hK hP hc he, fun U hU hW => ⟨rfl, by rw [hU]; exact hP, va_K.moved hW.alike hK⟩⟩ rfl hn hsize hstack (lv_room hW) hd hf) hS (fun q _ h => h) (fun q h => h) (fun u t H1 locs1 ht _ hp hB _ _ hS => kk u H1 locs1 hp (by rw [← ht]; exact hB) hS)
theorem ec_sSi {post : Int32 → Prop} (S : CallFix p m c cc nL s args ec_tbl own) (hM : Met l y (Cond.code y bytes maxL ret :: ec_tbl) rm (va_Pc As (fun U => va_P D cl w U.heap ∧ va_K D cl tys U)) (vp_Si post) 0 0 (fun _ => False)) (K : ec_Ks y bytes maxL ret n) (hK : va_K D cl tys s) (hP : va_P D cl w H) (hl : Cond.methodLink own index y ∈ ec_tbl) (hR : rm.frames + 1 ≤ R.frames ∧ 8 + (maxL + 11) + rm.locals ≤ R.locals) (hz : rm.cells = 0 ∧ rm.slots = 0) (hn : As.length = n) (hsize : ls.size = nL) (hstack : st0 = As.reverse ++ rest) (hW : (rest.map fun v => v.category).sum ≤ 8) (hd : decode cc pc = .ok (.invokestatic index, 3)) (hf : cells ≤ R.cells ∧ slots ≤ R.slots)
    (kk : ∀ r : Int32, post r → W p l e R s m args below meth c H locs cells slots Q (F0 m (pc + 3) ls (.int r :: rest))) : W p l e R s m args below meth c H locs cells slots Q (F0 m pc ls st0) := by
  exact vp_callSi (va_Run.run (va_runS (As := As) (rest := rest) S hM ⟨ec_CB S.2.2.2.2 K.1 hl hR hz, S.2.2.2.2 _ K.2⟩ ⟨ec_blind, fun U hU hW => ⟨rfl, by rw [hU]; exact hP, va_K.moved hW.alike hK⟩⟩ rfl hn hsize hstack (lv_room hW) hd hf)) kk
theorem ec_sSl {post : Int64 → Prop} (S : CallFix p m c cc nL s args ec_tbl own) (hM : Met l y (Cond.code y bytes maxL ret :: ec_tbl) rm (va_Pc As (fun U => va_P D cl w U.heap ∧ va_K D cl tys U)) (vp_Sl post) 0 0 (fun _ => False)) (K : ec_Ks y bytes maxL ret n) (hK : va_K D cl tys s) (hP : va_P D cl w H) (hl : Cond.methodLink own index y ∈ ec_tbl) (hR : rm.frames + 1 ≤ R.frames ∧ 8 + (maxL + 11) + rm.locals ≤ R.locals) (hz : rm.cells = 0 ∧ rm.slots = 0) (hn : As.length = n) (hsize : ls.size = nL) (hstack : st0 = As.reverse ++ rest) (hW : (rest.map fun v => v.category).sum ≤ 8) (hd : decode cc pc = .ok (.invokestatic index, 3)) (hf : cells ≤ R.cells ∧ slots ≤ R.slots)
    (kk : ∀ r : Int64, post r → W p l e R s m args below meth c H locs cells slots Q (F0 m (pc + 3) ls (.long r :: rest))) : W p l e R s m args below meth c H locs cells slots Q (F0 m pc ls st0) := by
  exact vp_callSl (va_Run.run (va_runS (As := As) (rest := rest) S hM ⟨ec_CB S.2.2.2.2 K.1 hl hR hz, S.2.2.2.2 _ K.2⟩ ⟨ec_blind, fun U hU hW => ⟨rfl, by rw [hU]; exact hP, va_K.moved hW.alike hK⟩⟩ rfl hn hsize hstack (lv_room hW) hd hf)) kk
theorem ec_sQi {S' : Type} {w' : S' → va_W} {post : Int32 → S' → Prop} (S : CallFix p m c cc nL s args ec_tbl own) (hM : Met l y (Cond.code y bytes maxL ret :: ec_tbl) rm (va_Pc As (fun U => va_P D cl w U.heap ∧ va_K D cl tys U)) (va_Qi post (fun u t => va_P D cl (w' u) t.heap) A) 0 0 A) (K : ec_Ks y bytes maxL ret n) (hK : va_K D cl tys s) (hP : va_P D cl w H) (hS : va_S A H0 H locs) (hl : Cond.methodLink own index y ∈ ec_tbl) (hR : rm.frames + 1 ≤ R.frames ∧ 8 + (maxL + 11) + rm.locals ≤ R.locals) (hz : rm.cells = 0 ∧ rm.slots = 0) (hn : As.length = n) (hsize : ls.size = nL) (hstack : st0 = As.reverse ++ rest) (hW : (rest.map fun v => v.category).sum ≤ 8) (hd : decode cc pc = .ok (.invokestatic index, 3)) (hf : cells ≤ R.cells ∧ slots ≤ R.slots)
    (kk : ∀ (r : Int32) (u : S') (H1 : Heap) (locs1 : List Loc), post r u → va_P D cl (w' u) H1 → va_S A H0 H1 locs1 → W p l e R s m args below meth c H1 locs1 cells slots Q (F0 m (pc + 3) ls (.int r :: rest))) : W p l e R s m args below meth c H locs cells slots Q (F0 m pc ls st0) := by
  exact va_calli (va_runS (As := As) (rest := rest) S hM ⟨ec_CB S.2.2.2.2 K.1 hl hR hz, S.2.2.2.2 _ K.2⟩ ⟨ec_blind, fun U hU hW => ⟨rfl, by rw [hU]; exact hP, va_K.moved hW.alike hK⟩⟩ rfl hn hsize hstack (lv_room hW) hd hf) hS (fun q _ h => h) (fun q h => h) (fun r u t H1 locs1 ht _ hp hB _ _ hS => kk r u H1 locs1 hp (by rw [← ht]; exact hB) hS)
theorem ec_sQl {S' : Type} {w' : S' → va_W} {post : Int64 → S' → Prop} (S : CallFix p m c cc nL s args ec_tbl own) (hM : Met l y (Cond.code y bytes maxL ret :: ec_tbl) rm (va_Pc As (fun U => va_P D cl w U.heap ∧ va_K D cl tys U)) (va_Ql post (fun u t => va_P D cl (w' u) t.heap) A) 0 0 A) (K : ec_Ks y bytes maxL ret n) (hK : va_K D cl tys s) (hP : va_P D cl w H) (hS : va_S A H0 H locs) (hl : Cond.methodLink own index y ∈ ec_tbl) (hR : rm.frames + 1 ≤ R.frames ∧ 8 + (maxL + 11) + rm.locals ≤ R.locals) (hz : rm.cells = 0 ∧ rm.slots = 0) (hn : As.length = n) (hsize : ls.size = nL) (hstack : st0 = As.reverse ++ rest) (hW : (rest.map fun v => v.category).sum ≤ 8) (hd : decode cc pc = .ok (.invokestatic index, 3)) (hf : cells ≤ R.cells ∧ slots ≤ R.slots)
    (kk : ∀ (r : Int64) (u : S') (H1 : Heap) (locs1 : List Loc), post r u → va_P D cl (w' u) H1 → va_S A H0 H1 locs1 → W p l e R s m args below meth c H1 locs1 cells slots Q (F0 m (pc + 3) ls (.long r :: rest))) : W p l e R s m args below meth c H locs cells slots Q (F0 m pc ls st0) := by
  exact va_calll (va_runS (As := As) (rest := rest) S hM ⟨ec_CB S.2.2.2.2 K.1 hl hR hz, S.2.2.2.2 _ K.2⟩ ⟨ec_blind, fun U hU hW => ⟨rfl, by rw [hU]; exact hP, va_K.moved hW.alike hK⟩⟩ rfl hn hsize hstack (lv_room hW) hd hf) hS (fun q _ h => h) (fun q h => h) (fun r u t H1 locs1 ht _ hp hB _ _ hS => kk r u H1 locs1 hp (by rw [← ht]; exact hB) hS)
theorem ec_sQv {S' : Type} {w' : S' → va_W} {post : S' → Prop} (S : CallFix p m c cc nL s args ec_tbl own) (hM : Met l y (Cond.code y bytes maxL ret :: ec_tbl) rm (va_Pc As (fun U => va_P D cl w U.heap ∧ va_K D cl tys U)) (va_Qv post (fun u t => va_P D cl (w' u) t.heap) A) 0 0 A) (K : ec_Ks y bytes maxL ret n) (hK : va_K D cl tys s) (hP : va_P D cl w H) (hS : va_S A H0 H locs) (hl : Cond.methodLink own index y ∈ ec_tbl) (hR : rm.frames + 1 ≤ R.frames ∧ 8 + (maxL + 11) + rm.locals ≤ R.locals) (hz : rm.cells = 0 ∧ rm.slots = 0) (hn : As.length = n) (hsize : ls.size = nL) (hstack : st0 = As.reverse ++ rest) (hW : (rest.map fun v => v.category).sum ≤ 8) (hd : decode cc pc = .ok (.invokestatic index, 3)) (hf : cells ≤ R.cells ∧ slots ≤ R.slots)
    (kk : ∀ (u : S') (H1 : Heap) (locs1 : List Loc), post u → va_P D cl (w' u) H1 → va_S A H0 H1 locs1 → W p l e R s m args below meth c H1 locs1 cells slots Q (F0 m (pc + 3) ls (rest))) : W p l e R s m args below meth c H locs cells slots Q (F0 m pc ls st0) := by
  exact va_callv (va_runS (As := As) (rest := rest) S hM ⟨ec_CB S.2.2.2.2 K.1 hl hR hz, S.2.2.2.2 _ K.2⟩ ⟨ec_blind, fun U hU hW => ⟨rfl, by rw [hU]; exact hP, va_K.moved hW.alike hK⟩⟩ rfl hn hsize hstack (lv_room hW) hd hf) hS (fun q _ h => h) (fun q h => h) (fun u t H1 locs1 ht _ hp hB _ _ hS => kk u H1 locs1 hp (by rw [← ht]; exact hB) hS)
theorem ec_sTSi {post : Int32 → Prop} (S : CallFix p m c cc nL s args ec_tbl own) (hM : Met l y (Cond.code y bytes maxL ret :: ec_tbl) rm (va_Pc As (fun _ => True)) (vp_Si post) 0 0 (fun _ => False)) (K : ec_Ks y bytes maxL ret n) (hl : Cond.methodLink own index y ∈ ec_tbl) (hR : rm.frames + 1 ≤ R.frames ∧ 8 + (maxL + 11) + rm.locals ≤ R.locals) (hz : rm.cells = 0 ∧ rm.slots = 0) (hn : As.length = n) (hsize : ls.size = nL) (hstack : st0 = As.reverse ++ rest) (hW : (rest.map fun v => v.category).sum ≤ 8) (hd : decode cc pc = .ok (.invokestatic index, 3)) (hf : cells ≤ R.cells ∧ slots ≤ R.slots)
    (kk : ∀ r : Int32, post r → W p l e R s m args below meth c H locs cells slots Q (F0 m (pc + 3) ls (.int r :: rest))) : W p l e R s m args below meth c H locs cells slots Q (F0 m pc ls st0) := by
  exact vp_callSi (va_Run.run (va_runS (As := As) (rest := rest) S hM ⟨ec_CB S.2.2.2.2 K.1 hl hR hz, S.2.2.2.2 _ K.2⟩ ⟨ec_blindT, fun U hU hW => ⟨rfl, trivial⟩⟩ rfl hn hsize hstack (lv_room hW) hd hf)) kk
theorem ec_sTSl {post : Int64 → Prop} (S : CallFix p m c cc nL s args ec_tbl own) (hM : Met l y (Cond.code y bytes maxL ret :: ec_tbl) rm (va_Pc As (fun _ => True)) (vp_Sl post) 0 0 (fun _ => False)) (K : ec_Ks y bytes maxL ret n) (hl : Cond.methodLink own index y ∈ ec_tbl) (hR : rm.frames + 1 ≤ R.frames ∧ 8 + (maxL + 11) + rm.locals ≤ R.locals) (hz : rm.cells = 0 ∧ rm.slots = 0) (hn : As.length = n) (hsize : ls.size = nL) (hstack : st0 = As.reverse ++ rest) (hW : (rest.map fun v => v.category).sum ≤ 8) (hd : decode cc pc = .ok (.invokestatic index, 3)) (hf : cells ≤ R.cells ∧ slots ≤ R.slots)
    (kk : ∀ r : Int64, post r → W p l e R s m args below meth c H locs cells slots Q (F0 m (pc + 3) ls (.long r :: rest))) : W p l e R s m args below meth c H locs cells slots Q (F0 m pc ls st0) := by
  exact vp_callSl (va_Run.run (va_runS (As := As) (rest := rest) S hM ⟨ec_CB S.2.2.2.2 K.1 hl hR hz, S.2.2.2.2 _ K.2⟩ ⟨ec_blindT, fun U hU hW => ⟨rfl, trivial⟩⟩ rfl hn hsize hstack (lv_room hW) hd hf)) kk
end
