/-- A part of a mesh: all of it but that every point is a corner. -/
def ge_MeshW (n : Nat) (P : Nat → ge_Pt) (T : Nat → Nat → Nat → Prop) : Prop :=
  (∀ a b c, T a b c → a < n ∧ b < n ∧ c < n) ∧
  (∀ a b c, T a b c → 0 < ge_ori (P a) (P b) (P c)) ∧
  (∀ a b c, T a b c → T b c a) ∧
  (∀ a b c v, T b a c → v < n → 0 < ge_ori (P a) (P b) (P v) → ∃ d, T a b d) ∧
  (∀ a b c v, T a b c → v < n → v ≠ a → v ≠ b → ¬ ge_Btw (P a) (P b) (P v)) ∧
  (∀ a b c v, T a b c → v < n → ¬ (0 < ge_ori (P a) (P b) (P v) ∧ 0 < ge_ori (P b) (P c) (P v) ∧ 0 < ge_ori (P c) (P a) (P v)))
theorem ge_MeshW.lt {n : Nat} {P : Nat → ge_Pt} {T : Nat → Nat → Nat → Prop} (M : ge_MeshW n P T) {a b c : Nat} : T a b c → a < n ∧ b < n ∧ c < n := M.1 a b c
theorem ge_MeshW.pos {n : Nat} {P : Nat → ge_Pt} {T : Nat → Nat → Nat → Prop} (M : ge_MeshW n P T) {a b c : Nat} : T a b c → 0 < ge_ori (P a) (P b) (P c) := M.2.1 a b c
theorem ge_MeshW.rot {n : Nat} {P : Nat → ge_Pt} {T : Nat → Nat → Nat → Prop} (M : ge_MeshW n P T) {a b c : Nat} : T a b c → T b c a := M.2.2.1 a b c
theorem ge_MeshW.ext {n : Nat} {P : Nat → ge_Pt} {T : Nat → Nat → Nat → Prop} (M : ge_MeshW n P T) {a b c v : Nat} : T b a c → v < n → 0 < ge_ori (P a) (P b) (P v) → ∃ d, T a b d := M.2.2.2.1 a b c v
theorem ge_MeshW.clear {n : Nat} {P : Nat → ge_Pt} {T : Nat → Nat → Nat → Prop} (M : ge_MeshW n P T) {a b c v : Nat} : T a b c → v < n → v ≠ a → v ≠ b → ¬ ge_Btw (P a) (P b) (P v) := M.2.2.2.2.1 a b c v
theorem ge_MeshW.empty {n : Nat} {P : Nat → ge_Pt} {T : Nat → Nat → Nat → Prop} (M : ge_MeshW n P T) {a b c v : Nat} : T a b c → v < n → ¬ (0 < ge_ori (P a) (P b) (P v) ∧ 0 < ge_ori (P b) (P c) (P v) ∧ 0 < ge_ori (P c) (P a) (P v)) := M.2.2.2.2.2 a b c v

section
variable {n : Nat} {P : Nat → ge_Pt} {T : Nat → Nat → Nat → Prop} {L : Nat → Nat → Prop}

theorem ge_MeshW.clearE (M : ge_MeshW n P T) {a b v : Nat} (h : ge_Edge T a b) (hv : v < n) (h1 : v ≠ a) (h2 : v ≠ b) :
    ¬ ge_Btw (P a) (P b) (P v) := by
  obtain ⟨c, h | h⟩ := h
  · exact M.clear h hv h1 h2
  · exact fun hb => M.clear h hv h2 h1 (ge_Btw_comm hb)


theorem ge_MeshW.ne (M : ge_MeshW n P T) {a b c : Nat} (h : T a b c) : a ≠ b ∧ b ≠ c ∧ a ≠ c := by
  have hp := M.pos h
  refine ⟨?_, ?_, ?_⟩
  · intro e; subst e; rw [ge_ori_aab] at hp; omega
  · intro e; subst e; rw [ge_ori_abb] at hp; omega
  · intro e; subst e; rw [ge_ori_aba] at hp; omega


theorem ge_MeshW.star (M : ge_MeshW n P T) (inj : ge_Inj n P) {u v : Nat} (hu : u < n) (hv : v < n) (huv : u ≠ v) (hf : ∃ b c, T u b c)
    (clr : ge_Clear n P u v) : ge_Edge T u v ∨ ∃ p q, T p q u ∧ ge_Xs (P p) (P q) (P u) (P v) := by
  classical
  -- the end of the search: v strictly inside the angle of a triangle at u
  have cone : ∀ x y, T u x y → 0 < ge_ori (P u) (P x) (P v) → ge_ori (P u) (P y) (P v) < 0 →
      ∃ p q, T p q u ∧ ge_Xs (P p) (P q) (P u) (P v) := by
    intro x y ht h1 h2
    refine ⟨x, y, M.rot ht, ?_⟩
    have hp := M.pos ht
    have e1 := ge_rot (P u) (P x) (P y)
    have e2 := ge_swp2 (P u) (P x) (P v)
    have e3 := ge_swp2 (P u) (P y) (P v)
    refine ⟨by omega, ?_, by omega, by omega⟩
    apply Classical.byContradiction; intro h
    have e4 := ge_swp (P u) (P y) (P v)
    rcases Int.lt_or_eq_of_le (Int.not_lt.mp h) with h | h
    · exact M.empty ht hv ⟨h1, h, by omega⟩
    · refine M.clear (M.rot ht) hv ?_ ?_ ?_
      · intro e; subst e; rw [ge_ori_abb] at h1; omega
      · intro e; subst e; rw [ge_ori_abb] at h2; omega
      · have e5 := ge_swp (P u) (P v) (P x)
        have e6 := ge_swp (P u) (P v) (P y)
        have e7 := ge_ori_aba (P v) (P u)
        exact ge_btw_ori (p := P v) (q := P u) h.symm (by omega) (by omega) (by omega)
  have nbr : ∀ x, (∃ c, T u x c ∨ T x u c) → x < n ∧ u ≠ x := by
    rintro x ⟨c, h | h⟩
    · exact ⟨(M.lt h).2.1, (M.ne h).1⟩
    · exact ⟨(M.lt h).1, (M.ne h).1.symm⟩
  by_cases hA : ∃ x, ge_Edge T u x ∧ 0 < ge_ori (P u) (P x) (P v)
  · obtain ⟨x0, hx0, hp0⟩ := hA
    obtain ⟨x, hx, hmax⟩ := ge_fin_max
      ((List.range n).filter fun x => decide (ge_Edge T u x ∧ 0 < ge_ori (P u) (P x) (P v)))
      (fun x y => 0 < ge_ori (P u) (P x) (P v) ∧ 0 < ge_ori (P u) (P y) (P v) ∧ 0 < ge_ori (P u) (P x) (P y))
      (by intro x h; rw [ge_ori_abb] at h; omega)
      (by intro x y z h k; exact ⟨h.1, k.2.1, ge_ang_tr h.1 h.2.1 k.2.1 h.2.2 k.2.2⟩)
      x0 (by simp; exact ⟨(nbr x0 hx0).1, hx0, hp0⟩)
    simp at hx
    obtain ⟨hxn, hxe, hxp⟩ := hx
    have hT : ∃ y, T u x y := by
      obtain ⟨c, h | h⟩ := hxe
      · exact ⟨c, h⟩
      · exact M.ext h hv hxp
    obtain ⟨y, hy⟩ := hT
    have hyl := M.lt hy
    have hyp := M.pos hy
    have hye : ge_Edge T u y := ⟨x, Or.inr (M.rot (M.rot hy))⟩
    rcases Int.lt_trichotomy (ge_ori (P u) (P y) (P v)) 0 with h | h | h
    · exact Or.inr (cone x y hy hxp h)
    · left
      have : y = v := ge_ray_same hv hyl.2.2 huv (M.ne hy).2.2 clr (fun w hw h1 h2 => M.clearE hye hw h1 h2) h hyp hxp
      rw [← this]; exact hye
    · exact absurd ⟨hxp, h, hyp⟩ (hmax y (by simp; exact ⟨hyl.2.2, hye, h⟩))
  · have hA' : ∀ x, ge_Edge T u x → ge_ori (P u) (P x) (P v) ≤ 0 := fun x hx => by
      apply Classical.byContradiction; intro h; exact hA ⟨x, hx, by omega⟩
    have hB : ∃ x, ge_Edge T u x ∧ ge_ori (P u) (P x) (P v) < 0 := by
      obtain ⟨b, c, h⟩ := hf
      have hp := M.pos h
      have hb : ge_Edge T u b := ⟨c, Or.inl h⟩
      have hc : ge_Edge T u c := ⟨b, Or.inr (M.rot (M.rot h))⟩
      have h1 := hA' b hb
      have h2 := hA' c hc
      by_cases k1 : ge_ori (P u) (P b) (P v) < 0
      · exact ⟨b, hb, k1⟩
      by_cases k2 : ge_ori (P u) (P c) (P v) < 0
      · exact ⟨c, hc, k2⟩
      exfalso
      have z1 : ge_ori (P u) (P b) (P v) = 0 := by omega
      have z2 : ge_ori (P u) (P c) (P v) = 0 := by omega
      apply huv
      apply inj u v hu hv
      · have e : ge_ori (P u) (P b) (P c) * ((P v).x - (P u).x) =
            ge_ori (P u) (P b) (P v) * ((P c).x - (P u).x) - ge_ori (P u) (P c) (P v) * ((P b).x - (P u).x) := by
          unfold ge_ori; grind
        rw [z1, z2] at e
        have : ge_ori (P u) (P b) (P c) * ((P v).x - (P u).x) = 0 := by grind
        rcases Int.mul_eq_zero.mp this with h | h <;> omega
      · have e : ge_ori (P u) (P b) (P c) * ((P v).y - (P u).y) =
            ge_ori (P u) (P b) (P v) * ((P c).y - (P u).y) - ge_ori (P u) (P c) (P v) * ((P b).y - (P u).y) := by
          unfold ge_ori; grind
        rw [z1, z2] at e
        have : ge_ori (P u) (P b) (P c) * ((P v).y - (P u).y) = 0 := by grind
        rcases Int.mul_eq_zero.mp this with h | h <;> omega
    obtain ⟨x0, hx0, hp0⟩ := hB
    obtain ⟨x, hx, hmax⟩ := ge_fin_max
      ((List.range n).filter fun x => decide (ge_Edge T u x ∧ ge_ori (P u) (P x) (P v) < 0))
      (fun x y => ge_ori (P u) (P x) (P v) < 0 ∧ ge_ori (P u) (P y) (P v) < 0 ∧ 0 < ge_ori (P u) (P y) (P x))
      (by intro x h; rw [ge_ori_abb] at h; omega)
      (by
        intro x y z h k
        refine ⟨h.1, k.2.1, ?_⟩
        have e := ge_plu (P u) (P z) (P y) (P x) (P v)
        have m1 := ge_mpn k.2.2 h.1
        have m2 := ge_mnp k.2.1 h.2.2
        have := ge_pos_of_mul (a := - ge_ori (P u) (P y) (P v)) (b := ge_ori (P u) (P z) (P x)) (by omega) (by grind)
        exact this)
      x0 (by simp; exact ⟨(nbr x0 hx0).1, hx0, hp0⟩)
    simp at hx
    obtain ⟨hxn, hxe, hxp⟩ := hx
    have hT : ∃ y, T x u y := by
      obtain ⟨c, h | h⟩ := hxe
      · exact M.ext h hv (by have := ge_swp (P u) (P x) (P v); omega)
      · exact ⟨c, h⟩
    obtain ⟨y, hy⟩ := hT
    have hyl := M.lt hy
    have hyp := M.pos (M.rot hy)
    have hye : ge_Edge T u y := ⟨x, Or.inl (M.rot hy)⟩
    have hle := hA' y hye
    left
    by_cases h : ge_ori (P u) (P y) (P v) < 0
    · exact absurd ⟨hxp, h, hyp⟩ (hmax y (by simp; exact ⟨hyl.2.2, hye, h⟩))
    · have hz : ge_ori (P u) (P y) (P v) = 0 := by omega
      have : y = v := by
        apply Classical.byContradiction; intro hne
        have e0 := ge_ori_aba (P x) (P u)
        have e1 := ge_rot2 (P u) (P y) (P v)
        have e2 := ge_swp2 (P u) (P y) (P v)
        have e3 := ge_rot2 (P u) (P v) (P y)
        have f1 := ge_rot (P x) (P u) (P y)
        have f2 := ge_swp (P u) (P x) (P v)
        have f0 := ge_ori_abb (P x) (P u)
        by_cases hc : ge_ori (P x) (P u) (P y) ≤ ge_ori (P x) (P u) (P v)
        · apply clr y hyl.2.2 (M.ne hy).2.1.symm hne
          apply ge_Btw_comm
          exact ge_btw_ori (p := P x) (q := P u) (u := P v) (v := P u) (by omega) (by omega) (by omega) (by omega)
        · apply M.clear (M.rot hy) hv huv.symm (Ne.symm hne)
          apply ge_Btw_comm
          exact ge_btw_ori (p := P x) (q := P u) (u := P y) (v := P u) (by omega) (by omega) (by omega) (by omega)
      rw [← this]; exact hye


/-- From a side that u v runs over, the walk along u v within a closed part comes to v. -/
theorem ge_walk {T' : Nat → Nat → Nat → Prop} (M : ge_Mesh n P T)
    (hs : ∀ a b c, T' a b c → T a b c) (hr : ∀ a b c, T' a b c → T' b c a)
    (hc : ∀ a b c d, T' b a c → T a b d → T' a b d)
    {u v : Nat} (hv : v < n) (clr : ge_Clear n P u v) :
    ∀ p q r, T' p q r → ge_Xs (P p) (P q) (P u) (P v) → ∃ a b, T' v a b := by
  have main := ge_fin_ind (ge_triples n)
    (fun s t => 0 < ge_ori (P s.1) (P s.2.1) (P u) ∧ ge_ori (P s.1) (P s.2.1) (P v) < 0 ∧
      0 < ge_ori (P t.1) (P t.2.1) (P u) ∧ ge_ori (P t.1) (P t.2.1) (P v) < 0 ∧
      ge_ori (P t.1) (P t.2.1) (P u) * ge_ori (P s.1) (P s.2.1) (P v) < ge_ori (P s.1) (P s.2.1) (P u) * ge_ori (P t.1) (P t.2.1) (P v))
    (fun x h => Int.lt_irrefl _ h.2.2.2.2)
    (by
      rintro x y z ⟨h1, h2, h3, h4, h5⟩ ⟨_, _, k3, k4, k5⟩
      refine ⟨h1, h2, k3, k4, ?_⟩
      revert h1 h2 h3 h4 h5 k3 k4 k5
      generalize ge_ori (P x.1) (P x.2.1) (P u) = a
      generalize ge_ori (P x.1) (P x.2.1) (P v) = a'
      generalize ge_ori (P y.1) (P y.2.1) (P u) = b
      generalize ge_ori (P y.1) (P y.2.1) (P v) = b'
      generalize ge_ori (P z.1) (P z.2.1) (P u) = c
      generalize ge_ori (P z.1) (P z.2.1) (P v) = c'
      intro h1 h2 h3 h4 h5 k3 k4 k5
      have m1 := ge_mpp (show 0 < -c' by omega) (show 0 < a * b' - b * a' by omega)
      have m2 := ge_mpp (show 0 < -a' by omega) (show 0 < b * c' - c * b' by omega)
      have := ge_pos_of_mul (a := -b') (b := a * c' - c * a') (by omega) (by grind)
      omega)
    (fun t => T' t.1 t.2.1 t.2.2 → ge_Xs (P t.1) (P t.2.1) (P u) (P v) → ∃ a b, T' v a b)
    (by
      rintro ⟨p, q, r⟩ _ ih ht hx
      simp only at *
      have hx0 := hx
      obtain ⟨x1, x2, x3, x4⟩ := hx
      have hpv : 0 < ge_ori (P q) (P p) (P v) := by have := ge_swp (P p) (P q) (P v); omega
      obtain ⟨s, hs0⟩ := M.ext (hs _ _ _ ht) hv hpv
      have hs1 := hc q p r s ht hs0
      have hsp := M.pos hs0
      by_cases hsv : s = v
      · subst hsv; exact ⟨q, p, hr _ _ _ (hr _ _ _ hs1)⟩
      have hsu : s ≠ u := by
        intro e; subst e
        have := ge_swp (P p) (P q) (P s); omega
      rcases Int.lt_trichotomy (ge_ori (P u) (P v) (P s)) 0 with h | h | h
      · have hxx := ge_exit_right hx0 hsp h
          (by intro hh; exact M.empty hs0 hv hh)
          (M.clear (M.rot (M.rot hs0)) hv (Ne.symm hsv) (by intro e; subst e; rw [ge_ori_abb] at x2; omega))
        have hT := hr _ _ _ (hr _ _ _ hs1)
        have l := M.lt (hs _ _ _ hT)
        refine ih (s, q, p) (ge_mem_triples.mpr l) ⟨x1, x2, hxx.1, hxx.2.1, ?_⟩ hT hxx
        have e1 := ge_plu (P q) (P p) (P s) (P u) (P v)
        have e2 := ge_swp (P p) (P q) (P u)
        have e3 := ge_swp (P p) (P q) (P v)
        have e4 := ge_swp (P s) (P q) (P u)
        have e5 := ge_swp (P s) (P q) (P v)
        have e6 := ge_rot2 (P u) (P v) (P q)
        have m := ge_mpp hsp (show 0 < ge_ori (P q) (P u) (P v) by omega)
        rw [e2, e3, e4, e5] at e1
        grind
      · exfalso
        have hss : ge_ori (P p) (P q) (P s) < 0 := by have := ge_swp (P p) (P q) (P s); omega
        by_cases hc : ge_ori (P p) (P q) (P v) ≤ ge_ori (P p) (P q) (P s)
        · exact clr s (M.lt hs0).2.2 hsu hsv (ge_btw_ori h (by omega) hc (by omega))
        · apply M.empty hs0 hv
          have i1 : ge_ori (P p) (P s) (P v) * (ge_ori (P p) (P q) (P u) - ge_ori (P p) (P q) (P v)) =
              (-(ge_ori (P u) (P v) (P p))) * (ge_ori (P p) (P q) (P v) - ge_ori (P p) (P q) (P s))
                + ge_ori (P u) (P v) (P s) * (ge_ori (P p) (P q) (P v)) := by unfold ge_ori; grind
          have i2 : ge_ori (P s) (P q) (P v) * (ge_ori (P p) (P q) (P u) - ge_ori (P p) (P q) (P v)) =
              (ge_ori (P u) (P v) (P q)) * (ge_ori (P p) (P q) (P v) - ge_ori (P p) (P q) (P s))
                - ge_ori (P u) (P v) (P s) * (ge_ori (P p) (P q) (P v)) := by unfold ge_ori; grind
          rw [h] at i1 i2
          have k1 := ge_mpp (show 0 < -(ge_ori (P u) (P v) (P p)) by omega)
            (show 0 < ge_ori (P p) (P q) (P v) - ge_ori (P p) (P q) (P s) by omega)
          have k2 := ge_mpp x4 (show 0 < ge_ori (P p) (P q) (P v) - ge_ori (P p) (P q) (P s) by omega)
          have pp : 0 < ge_ori (P p) (P q) (P u) - ge_ori (P p) (P q) (P v) := by omega
          refine ⟨hpv, ge_pos_of_mul pp (by grind), ge_pos_of_mul pp (by grind)⟩
      · have hxx := ge_exit_left hx0 hsp h
          (by intro hh; exact M.empty hs0 hv hh)
          (M.clear (M.rot hs0) hv (by intro e; subst e; rw [ge_ori_aba] at x2; omega) (Ne.symm hsv))
        have hT := hr _ _ _ hs1
        have l := M.lt (hs _ _ _ hT)
        refine ih (p, s, q) (ge_mem_triples.mpr l) ⟨x1, x2, hxx.1, hxx.2.1, ?_⟩ hT hxx
        have e1 := ge_plu (P p) (P q) (P s) (P u) (P v)
        have e2 := ge_swp (P p) (P q) (P s)
        have e6 := ge_rot2 (P u) (P v) (P p)
        have m := ge_mnn (show ge_ori (P p) (P q) (P s) < 0 by omega) (show ge_ori (P p) (P u) (P v) < 0 by omega)
        grind)
  intro p q r ht hx
  exact main (p, q, r) (ge_mem_triples.mpr (M.lt (hs _ _ _ ht))) ht hx

theorem ge_partW {T' : Nat → Nat → Nat → Prop} (M : ge_Mesh n P T)
    (hs : ∀ a b c, T' a b c → T a b c) (hr : ∀ a b c, T' a b c → T' b c a)
    (hc : ∀ a b c d, T' b a c → T a b d → T' a b d) : ge_MeshW n P T' := by
  refine ⟨fun a b c h => M.lt (hs _ _ _ h), fun a b c h => M.pos (hs _ _ _ h), hr, ?_, fun a b c v h => M.clear (hs _ _ _ h), fun a b c v h => M.empty (hs _ _ _ h)⟩
  intro a b c v h hv hp
  obtain ⟨d, hd⟩ := M.ext (hs _ _ _ h) hv hp
  exact ⟨d, hc _ _ _ _ h hd⟩

theorem ge_cover {T' : Nat → Nat → Nat → Prop} (M : ge_Mesh n P T) (inj : ge_Inj n P)
    (hs : ∀ a b c, T' a b c → T a b c) (hr : ∀ a b c, T' a b c → T' b c a)
    (hc : ∀ a b c d, T' b a c → T a b d → T' a b d) :
    ∀ (k u v : Nat), u < n → v < n → ((P u).x - (P v).x).natAbs + ((P u).y - (P v).y).natAbs ≤ k →
      (∃ a b, T' u a b) → ∃ a b, T' v a b := by
  have MW := ge_partW M hs hr hc
  intro k
  induction k with
  | zero =>
    intro u v hu hv hk h
    have : u = v := inj u v hu hv (by omega) (by omega)
    rw [← this]; exact h
  | succ k ih =>
    intro u v hu hv hk h
    by_cases huv : u = v
    · rw [← huv]; exact h
    by_cases clr : ge_Clear n P u v
    · rcases MW.star inj hu hv huv h clr with ⟨c, he | he⟩ | ⟨p, q, ht, hx⟩
      · exact ⟨_, _, hr _ _ _ he⟩
      · exact ⟨_, _, he⟩
      · exact ge_walk M hs hr hc hv clr p q u ht hx
    · have hw : ∃ w, w < n ∧ w ≠ u ∧ w ≠ v ∧ ge_Btw (P u) (P v) (P w) := by
        apply Classical.byContradiction; intro hh
        apply clr
        intro w h1 h2 h3 h4
        exact hh ⟨w, h1, h2, h3, h4⟩
      obtain ⟨w, hw, wu, wv, hb⟩ := hw
      have n1 : ¬ ((P u).x = (P w).x ∧ (P u).y = (P w).y) := fun e => wu (inj u w hu hw e.1 e.2).symm
      have n2 : ¬ ((P w).x = (P v).x ∧ (P w).y = (P v).y) := fun e => wv (inj w v hw hv e.1 e.2)
      obtain ⟨_, b1, b2, b3, b4⟩ := hb
      have h1 := ih u w hu hw (by omega) h
      exact ih w v hw hv (by omega) h1

/-- A part of a mesh that holds a triangle, and with each the ones beside it, is all of it. -/
theorem ge_closed_all {T' : Nat → Nat → Nat → Prop} (M : ge_Mesh n P T) (inj : ge_Inj n P)
    (hs : ∀ a b c, T' a b c → T a b c) (hr : ∀ a b c, T' a b c → T' b c a)
    (hc : ∀ a b c d, T' b a c → T a b d → T' a b d) (h0 : ∃ a b c, T' a b c) {a b c : Nat} (h : T a b c) : T' a b c := by
  have MW := ge_partW M hs hr hc
  obtain ⟨a0, b0, c0, h0⟩ := h0
  have full : ∀ v, v < n → ∃ x y, T' v x y := fun v hv =>
    ge_cover M inj hs hr hc _ a0 v (M.lt (hs _ _ _ h0)).1 hv (Nat.le_refl _) ⟨b0, c0, h0⟩
  have hl := M.lt h
  have hE : ge_Edge T' a b := by
    rcases MW.star inj hl.1 hl.2.1 (M.ne h).1 (full a hl.1) (M.clearT h) with he | ⟨p, q, ht, hx⟩
    · exact he
    · exact absurd (ge_Xs_Cr hx) (M.cross (hs _ _ _ ht) h)
  have hd : ∃ d, T' a b d := by
    obtain ⟨d, k | k⟩ := hE
    · exact ⟨d, k⟩
    · exact ⟨c, hc _ _ _ _ k h⟩
  obtain ⟨d, hd⟩ := hd
  have := M.uni h (hs _ _ _ hd)
  rw [this]; exact hd

theorem ge_Btw_oris {a b v p q : ge_Pt} (h : ge_Btw a b v) (ha : 0 ≤ ge_ori p q a) (hb : 0 ≤ ge_ori p q b) : 0 ≤ ge_ori p q v := by
  obtain ⟨s, t, hs, ht, s0, t0, hx, hy⟩ := ge_Btw_param h
  by_cases h1 : s + t = 0
  · have hs0 : s = 0 := by omega
    have e := s0 hs0
    have : ge_ori p q v = ge_ori p q b := by unfold ge_ori; rw [e.1, e.2]
    omega
  · have e := ge_ori_param (p := p) (q := q) hx hy
    have m1 := Int.mul_nonneg hs ha
    have m2 := Int.mul_nonneg ht hb
    exact ge_nonneg_of_mul (a := s + t) (by omega) (by omega)

/-- Of all points that could be joined to the side a b, the mesh has the one that no other is below. -/
theorem ge_winner (M : ge_Mesh n P T) (good : ge_Good P T L) {a b c d : Nat} (h : T a b c) (hd : d < n) (hne : d ≠ c)
    (hp : 0 < ge_ori (P a) (P b) (P d))
    (hclr : ∀ v, v < n → v ≠ a → v ≠ b → v ≠ d → ¬ (0 ≤ ge_ori (P a) (P b) (P v) ∧ 0 ≤ ge_ori (P b) (P d) (P v) ∧ 0 ≤ ge_ori (P d) (P a) (P v)))
    (nl1 : ∀ p q, L p q → ¬ ge_Cr (P p) (P q) (P b) (P d)) (nl2 : ∀ p q, L p q → ¬ ge_Cr (P p) (P q) (P a) (P d)) :
    ge_Dd (P a) (P b) (P c) (P d) < 0 := by
  have hl := M.lt h
  have hc := M.pos h
  have nn := M.ne h
  have hda : d ≠ a := by intro e; subst e; rw [ge_ori_aba] at hp; omega
  have hdb : d ≠ b := by intro e; subst e; rw [ge_ori_abb] at hp; omega
  have e1 := ge_swp2 (P b) (P c) (P d)
  have e2 := ge_rot (P d) (P a) (P c)
  have e3 := ge_swp (P c) (P a) (P d)
  have e4 := ge_swp2 (P a) (P b) (P d)
  have e5 := ge_swp2 (P a) (P c) (P d)
  have e6 := ge_rot (P a) (P b) (P c)
  have e7 := ge_rot2 (P a) (P b) (P c)
  have e8 := ge_rot (P a) (P b) (P d)
  have e9 := ge_rot2 (P a) (P b) (P d)
  have hcin : ge_ori (P b) (P c) (P d) ≤ 0 → ge_ori (P c) (P a) (P d) ≤ 0 → False := fun k1 k2 =>
    hclr c hl.2.2 nn.2.2.symm nn.2.1.symm (Ne.symm hne) ⟨by omega, by omega, by omega⟩
  have clrA : ge_Clear n P a d := by
    intro v hv h1 h2 hb
    by_cases hvb : v = b
    · subst hvb
      have := hb.1; omega
    have z0 := ge_ori_aba (P a) (P b)
    have z1 := ge_ori_abb (P b) (P d)
    have z2 := ge_ori_aba (P d) (P a)
    have z3 := ge_ori_abb (P d) (P a)
    refine hclr v hv h1 hvb h2 ⟨ge_Btw_oris hb (by omega) (by omega), ge_Btw_oris hb (by omega) (by omega), ge_Btw_oris hb (by omega) (by omega)⟩
  have clrB : ge_Clear n P b d := by
    intro v hv h1 h2 hb
    by_cases hva : v = a
    · subst hva
      have := hb.1; omega
    have z0 := ge_ori_abb (P a) (P b)
    have z1 := ge_ori_abb (P b) (P d)
    have z2 := ge_ori_aba (P b) (P d)
    have z3 := ge_ori_aba (P d) (P a)
    refine hclr v hv hva h1 h2 ⟨ge_Btw_oris hb (by omega) (by omega), ge_Btw_oris hb (by omega) (by omega), ge_Btw_oris hb (by omega) (by omega)⟩
  rcases Int.lt_trichotomy (ge_ori (P b) (P c) (P d)) 0 with k1 | k1 | k1
  · rcases Int.lt_or_le 0 (ge_ori (P c) (P a) (P d)) with k2 | k2
    · have := M.forward good hl.1 hd clrA nl2 b c a (M.rot h) ⟨by omega, k1, by omega, by omega⟩
      rw [ge_Dd_rot] at this
      exact this
    · exact absurd k2 (fun k2 => hcin (by omega) k2)
  · rcases Int.lt_or_le 0 (ge_ori (P c) (P a) (P d)) with k2 | k2
    · exfalso
      refine M.clear (M.rot h) hd hdb (Ne.symm (Ne.symm hne)) ?_
      exact ge_Btw_comm (ge_btw_ori (p := P a) (q := P b) (u := P c) (v := P b)
        (by have := ge_swp3 (P b) (P c) (P d); have := ge_swp (P b) (P c) (P d); omega) (by have := ge_ori_abb (P a) (P b); omega) (by have := ge_ori_abb (P a) (P b); omega)
        (by have := ge_four (P a) (P b) (P c) (P d); omega))
    · exact absurd k2 (fun k2 => hcin (by omega) k2)
  · rcases Int.lt_trichotomy (ge_ori (P c) (P a) (P d)) 0 with k2 | k2 | k2
    · have := M.forward good hl.2.1 hd clrB nl1 c a b (M.rot (M.rot h)) ⟨by omega, k2, by omega, by omega⟩
      rw [ge_Dd_rot, ge_Dd_rot] at this
      exact this
    · exfalso
      refine M.clear (M.rot (M.rot h)) hd hne hda ?_
      exact ge_btw_ori (p := P a) (q := P b) (u := P c) (v := P a) k2 (by have := ge_ori_aba (P a) (P b); omega) (by have := ge_ori_aba (P a) (P b); omega)
        (by have := ge_four (P a) (P b) (P c) (P d); omega)
    · exact absurd ⟨hp, k1, k2⟩ (M.empty h hd)

/-- The mesh's own corner over a b could be joined. -/
theorem ge_own (M : ge_Mesh n P T) {a b c v : Nat} (h : T a b c) (hv : v < n) (ha : v ≠ a) (hb : v ≠ b) (hc : v ≠ c)
    (hh : 0 ≤ ge_ori (P a) (P b) (P v) ∧ 0 ≤ ge_ori (P b) (P c) (P v) ∧ 0 ≤ ge_ori (P c) (P a) (P v)) : False := by
  obtain ⟨h1, h2, h3⟩ := hh
  have hp := M.pos h
  have s := ge_four (P a) (P b) (P c) (P v)
  have e1 := ge_swp (P c) (P a) (P v)
  have e2 := ge_rot (P a) (P b) (P c)
  have e3 := ge_rot2 (P a) (P b) (P c)
  have z1 := ge_ori_abb (P a) (P b)
  have z2 := ge_ori_aba (P a) (P b)
  have z3 := ge_ori_abb (P b) (P c)
  have z4 := ge_ori_aba (P b) (P c)
  have z5 := ge_ori_abb (P c) (P a)
  have z6 := ge_ori_aba (P c) (P a)
  rcases Int.lt_or_eq_of_le h1 with h1 | h1
  · rcases Int.lt_or_eq_of_le h2 with h2 | h2
    · rcases Int.lt_or_eq_of_le h3 with h3 | h3
      · exact M.empty h hv ⟨h1, h2, h3⟩
      · refine M.clear (M.rot (M.rot h)) hv hc ha ?_
        exact ge_btw_ori (p := P a) (q := P b) (u := P c) (v := P a) h3.symm (by omega) (by omega) (by omega)
    · refine M.clear (M.rot h) hv hb hc ?_
      exact ge_btw_ori (p := P c) (q := P a) (u := P b) (v := P c) h2.symm (by omega) (by omega) (by omega)
  · refine M.clear h hv ha hb ?_
    exact ge_btw_ori (p := P b) (q := P c) (u := P a) (v := P b) h1.symm (by omega) (by omega) (by omega)

/-- A side of the hull is a side of the mesh, with its triangle to the left. -/
theorem ge_hull_side (M : ge_Mesh n P T) (inj : ge_Inj n P) {a b : Nat} (ha : a < n) (hb : b < n) (hab : a ≠ b)
    (clr : ge_Clear n P a b) (hl : ∀ c, c < n → 0 ≤ ge_ori (P a) (P b) (P c)) : ∃ c, T a b c := by
  rcases M.star inj ha hb hab clr with ⟨c, h | h⟩ | ⟨p, q, ht, hx⟩
  · exact ⟨c, h⟩
  · have := M.pos h
    have := hl c (M.lt h).2.2
    have := ge_swp (P a) (P b) (P c)
    omega
  · have := hl p (M.lt ht).1
    have := hx.2.2.1
    omega

end
