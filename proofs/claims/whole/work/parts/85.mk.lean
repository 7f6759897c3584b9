/-! makings: arrays, objects, and the start -/
section
variable {p : Program} {l : Launch} {e : Env} {R : Room} {s : State} {m : MethodId} {args : Array Value} {below : List Frame} {meth : Method} {c : Code} {H : Heap} {locs : List Loc} {cells slots : Nat} {Q : State → Prop} {cc : ByteArray} {pc : Nat} {ls : Array Slot} {rest : List Value}
variable {D : va_G} {cl : List vw_C} {A : Nat → Prop} {tys : List (ClassId × FieldType)} {ws : va_W} {H0 : Heap}
theorem ec_newa (hx : p.tables.exec = Jvm.exec) (hb : c.code = cc) {atype : ArrayType} (harr : (Cond.arrayClass (newarray.typeOf atype)).before args s = true) {ty : FieldType} (hty : newarray.typeOf atype = ty) (hra : ∀ (U : State) (x y : ClassId), va_RA U x ty → va_RA U y ty → x = y)
    (hK : va_K D cl tys s) (t0 : Nat) {cA : ClassId} (ht : tys[t0]? = some (cA, ty)) (hP : va_P D cl ws H) (hD : va_D A ws) (hS : va_S A H0 H locs) (hA : ∀ q, H0.size ≤ q → A q)
    {N : Nat} {a0 : vp_A} (ha : ∀ cA : ClassId, vp_cell cA a0 = arrV cA N (fun _ => defaultValue ty)) (hn : N < 2 ^ 31) (hbytes : N * componentBytes ty ≤ 536870912) (hcells : cells + 1 ≤ R.cells) (hslots : slots + N ≤ R.slots) (hdg : decode cc pc = .ok (.newarray atype, 2))
    (kk : ∀ (q : Nat) (H1 : Heap), va_P D cl (ws ++ [(q, .inl (cA, a0))]) H1 → va_D A (ws ++ [(q, .inl (cA, a0))]) → va_S A H0 H1 locs → W p l e R s m args below meth c H1 locs (cells + 1) (slots + N) Q (F0 m (pc + 2) ls (.ref q :: rest))) :
    W p l e R s m args below meth c H locs cells slots Q (F0 m pc ls (.int (nI N) :: rest)) := by
  refine va_newa hx hb harr hty hK hP hD hS hA ha (nI_pos hn) (nI_clamp hn) hbytes hcells hslots hdg (fun q cB H1 hK1 hP1 hD1 hS1 => ?_)
  have e1 := (hK.2 t0 _ ht).2
  have hl : (tys ++ [(cB, ty)])[tys.length]? = some (cB, ty) := by
    rw [List.getElem?_append_right (Nat.le_refl _), Nat.sub_self]; rfl
  have e2 := (hK1.2 tys.length _ hl).2
  have : cB = cA := hra s cB cA e2 e1
  subst this
  exact kk q H1 hP1 hD1 hS1
theorem ec_raI (U : State) (x y : ClassId) (h : va_RA U x .int) (k : va_RA U y .int) : x = y := Option.some.inj ((show U.vm.findClass _ = some x from h).symm.trans k)
theorem ec_raZ (U : State) (x y : ClassId) (h : va_RA U x .boolean) (k : va_RA U y .boolean) : x = y := Option.some.inj ((show U.vm.findClass _ = some x from h).symm.trans k)
theorem ec_raJ (U : State) (x y : ClassId) (h : va_RA U x .long) (k : va_RA U y .long) : x = y := Option.some.inj ((show U.vm.findClass _ = some x from h).symm.trans k)
theorem ec_filtermap {is : List Nat} {w : va_W} {f : Nat → Option (Nat × va_E)} (h : is.map f = w.map some) : is.filterMap f = w := by
  induction is generalizing w with
  | nil =>
    cases w with
    | nil => rfl
    | cons x w => cases h
  | cons i is ih =>
    cases w with
    | nil => cases h
    | cons x w =>
      have h1 : f i = some x := by
        have := congrArg List.head? h; simpa using this
      have h2 : is.map f = w.map some := by
        have := congrArg List.tail h; simpa using this
      rw [List.filterMap_cons, h1, ih h2]
theorem ec_iQv {S' : Type} {w' : S' → va_W} {wc wr : va_W} {mc ms nL n index maxL : Nat} {y : MethodName} {bytes : ByteArray} {rm : Room} {own : String} {b : Nat} {As st0 : List Value}
    (S : CallFix p m c cc nL s args ec_tbl own)
    (hM : Met l y (Cond.code y bytes maxL none :: ec_tbl) rm (va_Pc (.ref b :: As) (fun U => U.heap.size = H.size ∧ va_P D cl wc U.heap ∧ va_K D cl tys U ∧ va_D (fun _ => True) wc)) (va_Qv (fun _ : S' => True) (fun u t => va_P D cl (w' u) t.heap ∧ va_D (va_A wc H.size) (w' u)) (va_A wc H.size)) mc ms (va_A wc H.size))
    (K : ec_Ki y bytes maxL n) (hy : y.name = "<init>") (hK : va_K D cl tys s) (hP : va_P D cl ws H) (hD : va_D A ws) (hS : va_S A H0 H locs) (hA : ∀ q, H0.size ≤ q → A q) (isC isR : List Nat) (hC : isC.map (fun i => ws[i]?) = wc.map some) (hR : isR.map (fun i => ws[i]?) = wr.map some) (hc : va_nd isC = true) (hnd : va_nd isR = true) (hdis : ∀ i ∈ isR, i ∉ isC)
    (hl : Cond.methodLink own index y ∈ ec_tbl) (hRm : rm.frames + 1 ≤ R.frames ∧ 8 + (maxL + 11) + rm.locals ≤ R.locals) (hz : rm.cells = mc ∧ rm.slots = ms) (hn : As.length = n) (hsize : ls.size = nL) (hstack : st0 = As.reverse ++ .ref b :: rest) (hW : (rest.map fun v => v.category).sum ≤ 8) (hd : decode cc pc = .ok (.invokespecial index, 3)) (hf : cells + mc ≤ R.cells ∧ slots + ms ≤ R.slots)
    (kk : ∀ (u : S') (H1 : Heap) (locs1 : List Loc), va_P D cl (wr ++ w' u) H1 → va_D A (wr ++ w' u) → va_S A H0 H1 locs1 → W p l e R s m args below meth c H1 locs1 (cells + mc) (slots + ms) Q (F0 m (pc + 3) ls rest)) : W p l e R s m args below meth c H locs cells slots Q (F0 m pc ls st0) := by
  have hPc : va_P D cl wc H := hP.sub isC (ec_filtermap hC)
  have hDc := hD.sub isC hc hC
  have hFc := va_free (wc := wc) hD hS hA isC hC
  refine va_callv (va_runI (As := As) (rest := rest) S hM ⟨ec_CB S.2.2.2.2 K.1 hl hRm hz, hy, S.2.2.2.2 _ K.2⟩ ⟨fun a U g mk q => by obtain ⟨q0, q1, qP, qK, qD⟩ := q; exact ⟨q0, q1, qP, va_K.moved (u := U) (U := U.calling g mk a) (Vm.Alike.refl U.vm) qK, qD⟩, fun U hU hW => ⟨rfl, by rw [hU], by rw [hU]; exact hPc, va_K.moved hW.alike hK, hDc.weaken (fun _ _ _ _ => trivial)⟩⟩ rfl hn hsize hstack (lv_room hW) hd hf) hS (fun q _ h => hFc q h) hFc (fun u t H1 locs1 ht hvm _ hB hz1 hk1 hS1 => ?_)
  obtain ⟨hP1, hD1⟩ := hB
  rw [ht] at hP1
  obtain ⟨hP2, hD2⟩ := va_join (wr := wr) (w1 := w' u) hP hD isC isR hC hR hnd hdis hk1 hFc hP1 hD1
  exact kk u H1 locs1 hP2 hD2 hS1
end
theorem ec_flipP {D : va_G} {cl : List vw_C} {x y : va_W} {H : Heap} (h : va_P D cl (x ++ y) H) : va_P D cl (y ++ x) H := by
  intro k q hk
  obtain ⟨i, hi⟩ := List.mem_iff_getElem?.mp (show q ∈ x ++ y by
    rcases List.mem_append.mp (List.mem_of_getElem? hk) with z | z
    · exact List.mem_append_right _ z
    · exact List.mem_append_left _ z)
  exact h i q hi
theorem ec_flipD {A : Nat → Prop} {x y : va_W} (h : va_D A (x ++ y)) : va_D A (y ++ x) := by
  have key : ∀ (k : Nat) (q : Nat × va_E), (y ++ x)[k]? = some q → (k < y.length ∧ (x ++ y)[k + x.length]? = some q) ∨ (y.length ≤ k ∧ k - y.length < x.length ∧ (x ++ y)[k - y.length]? = some q) := by
    intro k q hk
    by_cases e : k < y.length
    · rw [List.getElem?_append_left e] at hk
      refine Or.inl ⟨e, ?_⟩
      rw [List.getElem?_append_right (by omega), show k + x.length - x.length = k by omega]; exact hk
    · rw [List.getElem?_append_right (by omega)] at hk
      have hlt := (List.getElem?_eq_some_iff.mp hk).1
      refine Or.inr ⟨by omega, hlt, ?_⟩
      rw [List.getElem?_append_left hlt]; exact hk
  refine ⟨fun i j p q hi hj he => ?_, fun k q hk => ?_⟩
  · rcases key i p hi with ⟨a1, a2⟩ | ⟨a1, a2, a3⟩ <;> rcases key j q hj with ⟨b1, b2⟩ | ⟨b1, b2, b3⟩
    · have := h.1 _ _ _ _ a2 b2 he; omega
    · have := h.1 _ _ _ _ a2 b3 he; omega
    · have := h.1 _ _ _ _ a3 b2 he; omega
    · have := h.1 _ _ _ _ a3 b3 he; omega
  · rcases key k q hk with ⟨_, a2⟩ | ⟨_, _, a3⟩
    · exact h.2 _ _ a2
    · exact h.2 _ _ a3
theorem ec_arr {s : State} {args : Array Value} {ty : FieldType} (h : (Cond.arrayClass ty).before args s = true) (hp : ∀ kA : ClassId, s.vm.findClass ("[" ++ ty.toString) = some kA → va_RA s kA ty) : ∃ cA, ArrOfT s cA ty ∧ va_RA s cA ty := by
  obtain ⟨cA, kA, comp, hfind, hk, hkind⟩ := Cond.arrayClass_spec h
  exact ⟨cA, fun n z => ⟨fun k h => (by cases h), kA, hk, comp, hkind⟩, hp cA hfind⟩
theorem ec_known {s : State} {args : Array Value} (htb : ∀ w ∈ ec_tbl, w.before args s = true) : ∃ (dC : Nat → ClassId) (dI : Nat → Nat → Nat) (cI cZ cJ : ClassId), va_K (dC, dI) vwCl (ec_tys cI cZ cJ) s := by
  obtain ⟨c0, i0, k0⟩ := u_known htb in_P (htb _ wd_26)
  obtain ⟨c1, i1, k1⟩ := u_known htb in_L (htb _ wd_50)
  obtain ⟨c2, i2, k2⟩ := u_known htb in_F (htb _ wd_20)
  obtain ⟨c3, i3, k3⟩ := u_known htb in_M (htb _ wd_90)
  obtain ⟨c4, i4, k4⟩ := u_known htb in_X (htb _ wd_12)
  obtain ⟨c5, i5, k5⟩ := u_known htb in_R (htb _ wd_444)
  obtain ⟨cI, aI, rI⟩ := ec_arr (htb _ wd_48) (fun kA h => h)
  obtain ⟨cZ, aZ, rZ⟩ := ec_arr (htb _ wd_112) (fun kA h => h)
  obtain ⟨cJ, aJ, rJ⟩ := ec_arr (htb _ wd_504) (fun kA h => h)
  refine ⟨fun k => match k with | 0 => c0 | 1 => c1 | 2 => c2 | 3 => c3 | 4 => c4 | _ => c5, fun k => match k with | 0 => i0 | 1 => i1 | 2 => i2 | 3 => i3 | 4 => i4 | _ => i5, cI, cZ, cJ, fun k q hq => ?_, fun k q hq => ?_⟩
  · match k, hq with
    | 0, hq => cases hq; exact k0
    | 1, hq => cases hq; exact k1
    | 2, hq => cases hq; exact k2
    | 3, hq => cases hq; exact k3
    | 4, hq => cases hq; exact k4
    | 5, hq => cases hq; exact k5
    | k + 6, hq => exact absurd hq (by simp [vwCl])
  · match k, hq with
    | 0, hq => cases hq; exact ⟨aI, rI⟩
    | 1, hq => cases hq; exact ⟨aZ, rZ⟩
    | 2, hq => cases hq; exact ⟨aJ, rJ⟩
    | k + 3, hq => exact absurd hq (by simp [ec_tys])
theorem ec_arrZ (n : Nat) (cA : ClassId) : vp_cell cA (n, .inl (fun j => ec_bp ((fun _ : Nat => False) j))) = arrV cA n (fun _ => defaultValue .boolean) := by
  show arrV cA n (fun j => .int (ec_bp False)) = _
  rw [ec_bp_f (fun h => h)]; rfl
