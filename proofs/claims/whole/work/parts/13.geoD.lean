variable {n : Nat} {P : Nat → ge_Pt} {T : Nat → Nat → Nat → Prop} {L : Nat → Nat → Prop}

theorem ge_Xs_comm {p q u v : ge_Pt} (h : ge_Xs p q u v) : ge_Xs q p v u := ge_Xs_flip h

theorem ge_Clear.symm {a b : Nat} (h : ge_Clear n P a b) : ge_Clear n P b a :=
  fun v hv h1 h2 hb => h v hv h2 h1 (ge_Btw_comm hb)

theorem ge_Cr_comm2 {a b c d : ge_Pt} (h : ge_Cr a b c d) : ge_Cr a b d c := ge_Cr_swap (ge_Cr_comm (ge_Cr_swap h))

/-- A side of a good mesh that u v crosses lies below u v, where u v is clear and crosses no link. -/
theorem ge_Mesh.below (M : ge_Mesh n P T) (good : ge_Good P T L) {u v : Nat} (hu : u < n) (hv : v < n)
    (clr : ge_Clear n P u v) (nl : ∀ a b, L a b → ¬ ge_Cr (P a) (P b) (P u) (P v))
    {p q r : Nat} (ht : T p q r) (hx : ge_Xs (P p) (P q) (P u) (P v)) :
    ge_Dd (P p) (P q) (P u) (P v) < 0 := by
  have h1 := M.forward good hu hv clr nl p q r ht hx
  have hr := M.pos ht
  obtain ⟨x1, x2, x3, x4⟩ := id hx
  have nl' : ∀ a b, L a b → ¬ ge_Cr (P a) (P b) (P v) (P u) := fun a b hl hc => nl a b hl (ge_Cr_comm2 hc)
  have back := M.forward good hv hu clr.symm nl'
  have h2 : ge_Dd (P p) (P q) (P r) (P u) ≤ 0 := by
    by_cases hru : r = u
    · subst hru; rw [ge_Dd_last]; exact Int.le_refl _
    have hrv : r ≠ v := by intro e; subst e; omega
    -- v u runs over q p into p q r
    have hy : ge_Xs (P q) (P p) (P v) (P u) := ge_Xs_flip hx
    rcases Int.lt_trichotomy (ge_ori (P v) (P u) (P r)) 0 with h | h | h
    · have hxx := ge_exit_right (p := P q) (q := P p) (s := P r) hy hr h
        (by intro hh; exact M.empty ht hu hh)
        (M.clear (M.rot (M.rot ht)) hu (Ne.symm hru) (by intro e; subst e; rw [ge_ori_aba] at x1; omega))
      have := back r p q (M.rot (M.rot ht)) hxx
      rw [← ge_Dd_rot] at this
      exact Int.le_of_lt this
    · exfalso
      by_cases hc : ge_ori (P q) (P p) (P u) ≤ ge_ori (P q) (P p) (P r)
      · have e1 := ge_swp (P p) (P q) (P u)
        have e2 := ge_swp (P p) (P q) (P v)
        have e3 := ge_swp (P p) (P q) (P r)
        exact clr r (M.lt ht).2.2 hru hrv (ge_Btw_comm (ge_btw_ori (p := P q) (q := P p) h (by omega) hc (by omega)))
      · apply M.empty ht hu
        obtain ⟨y1, y2, y3, y4⟩ := hy
        have i1 : ge_ori (P q) (P r) (P u) * (ge_ori (P q) (P p) (P v) - ge_ori (P q) (P p) (P u)) =
            (-(ge_ori (P v) (P u) (P q))) * (ge_ori (P q) (P p) (P u) - ge_ori (P q) (P p) (P r))
              + ge_ori (P v) (P u) (P r) * (ge_ori (P q) (P p) (P u)) := by unfold ge_ori; grind
        have i2 : ge_ori (P r) (P p) (P u) * (ge_ori (P q) (P p) (P v) - ge_ori (P q) (P p) (P u)) =
            (ge_ori (P v) (P u) (P p)) * (ge_ori (P q) (P p) (P u) - ge_ori (P q) (P p) (P r))
              - ge_ori (P v) (P u) (P r) * (ge_ori (P q) (P p) (P u)) := by unfold ge_ori; grind
        rw [h] at i1 i2
        have k1 := ge_mpp (show 0 < -(ge_ori (P v) (P u) (P q)) by omega)
          (show 0 < ge_ori (P q) (P p) (P u) - ge_ori (P q) (P p) (P r) by omega)
        have k2 := ge_mpp y4 (show 0 < ge_ori (P q) (P p) (P u) - ge_ori (P q) (P p) (P r) by omega)
        have pp : 0 < ge_ori (P q) (P p) (P v) - ge_ori (P q) (P p) (P u) := by omega
        refine ⟨x1, ge_pos_of_mul pp (by grind), ge_pos_of_mul pp (by grind)⟩
    · have hxx := ge_exit_left (p := P q) (q := P p) (s := P r) hy hr h
        (by intro hh; exact M.empty ht hu hh)
        (M.clear (M.rot ht) hu (by intro e; subst e; rw [ge_ori_abb] at x1; omega) (Ne.symm hru))
      have := back q r p (M.rot ht) hxx
      rw [ge_Dd_rot] at this
      exact Int.le_of_lt this
  have w := ge_Dd_mix (P p) (P q) (P r) (P u) (P v)
  have m1 := ge_mnp h1 x1
  have m2 := Int.mul_nonneg_of_nonpos_of_nonpos h2 (Int.le_of_lt x2)
  exact ge_neg_of_mul hr (by grind)

/-- Among vectors to the right of u v, the order by angle. -/
theorem ge_ang_tr {u v x y z : ge_Pt} (hx : 0 < ge_ori u x v) (hy : 0 < ge_ori u y v) (hz : 0 < ge_ori u z v)
    (h1 : 0 < ge_ori u x y) (h2 : 0 < ge_ori u y z) : 0 < ge_ori u x z := by
  have e := ge_plu u x y z v
  -- o u x y * o u z v - o u x z * o u y v + o u x v * o u y z = 0
  have m1 := ge_mpp h1 hz
  have m2 := ge_mpp hx h2
  exact ge_pos_of_mul hy (by grind)

/-- Two points on one ray from u, neither beyond the other, are the same. -/
theorem ge_ray_same {u v y x : Nat} (hv : v < n) (hy : y < n) (huv : u ≠ v) (huy : u ≠ y)
    (c1 : ge_Clear n P u v) (c2 : ge_Clear n P u y) (h0 : ge_ori (P u) (P y) (P v) = 0)
    (h1 : 0 < ge_ori (P u) (P x) (P y)) (h2 : 0 < ge_ori (P u) (P x) (P v)) : y = v := by
  apply Classical.byContradiction; intro hne
  have e1 := ge_rot2 (P u) (P y) (P v)
  have e2 := ge_swp2 (P u) (P y) (P v)
  have e3 := ge_rot2 (P u) (P v) (P y)
  have e0 := ge_ori_aba (P u) (P x)
  by_cases hc : ge_ori (P u) (P x) (P y) ≤ ge_ori (P u) (P x) (P v)
  · apply c1 y hy (Ne.symm huy) hne
    apply ge_Btw_comm
    exact ge_btw_ori (p := P u) (q := P x) (u := P v) (v := P u) (by omega) (by omega) (by omega) (by omega)
  · apply c2 v hv (Ne.symm huv) (Ne.symm hne)
    apply ge_Btw_comm
    exact ge_btw_ori (p := P u) (q := P x) (u := P y) (v := P u) (by omega) (by omega) (by omega) (by omega)

theorem ge_ray_same' {u v y x : Nat} (hv : v < n) (hy : y < n) (huv : u ≠ v) (huy : u ≠ y)
    (c1 : ge_Clear n P u v) (c2 : ge_Clear n P u y) (h0 : ge_ori (P u) (P y) (P v) = 0)
    (h1 : ge_ori (P u) (P x) (P y) < 0) (h2 : ge_ori (P u) (P x) (P v) < 0) : y = v := by
  apply Classical.byContradiction; intro hne
  have e1 := ge_rot2 (P u) (P y) (P v)
  have e2 := ge_swp2 (P u) (P y) (P v)
  have e3 := ge_rot2 (P u) (P v) (P y)
  have e0 := ge_ori_abb (P x) (P u)
  have e4 := ge_swp (P u) (P x) (P v)
  have e5 := ge_swp (P u) (P x) (P y)
  by_cases hc : ge_ori (P x) (P u) (P y) ≤ ge_ori (P x) (P u) (P v)
  · apply c1 y hy (Ne.symm huy) hne
    apply ge_Btw_comm
    exact ge_btw_ori (p := P x) (q := P u) (u := P v) (v := P u) (by omega) (by omega) (by omega) (by omega)
  · apply c2 v hv (Ne.symm huv) (Ne.symm hne)
    apply ge_Btw_comm
    exact ge_btw_ori (p := P x) (q := P u) (u := P y) (v := P u) (by omega) (by omega) (by omega) (by omega)

theorem ge_Mesh.clearT (M : ge_Mesh n P T) {a b c : Nat} (h : T a b c) : ge_Clear n P a b :=
  fun _ hv h1 h2 => M.clear h hv h1 h2

theorem ge_Mesh.ne (M : ge_Mesh n P T) {a b c : Nat} (h : T a b c) : a ≠ b ∧ b ≠ c ∧ a ≠ c := by
  have hp := M.pos h
  refine ⟨?_, ?_, ?_⟩
  · intro e; subst e; rw [ge_ori_aab] at hp; omega
  · intro e; subst e; rw [ge_ori_abb] at hp; omega
  · intro e; subst e; rw [ge_ori_aba] at hp; omega

/-- A clear stretch is a side, or a side over against its end crosses it. -/
theorem ge_Mesh.star (M : ge_Mesh n P T) (inj : ge_Inj n P) {u v : Nat} (hu : u < n) (hv : v < n) (huv : u ≠ v)
    (clr : ge_Clear n P u v) : ge_Edge T u v ∨ ∃ p q, T p q u ∧ ge_Xs (P p) (P q) (P u) (P v) := by
  classical
  -- the end of the search: v strictly inside the angle of a triangle at u
  have cone : ∀ x y, T u x y → 0 < ge_ori (P u) (P x) (P v) → ge_ori (P u) (P y) (P v) < 0 →
      ∃ p q, T p q u ∧ ge_Xs (P p) (P q) (P u) (P v) := by
    intro x y ht h1 h2
    refine ⟨x, y, M.rot ht, ?_⟩
    have hp := M.pos ht
    have e1 := ge_rot (P u) (P x) (P y)
    have e2 := ge_swp2 (P u) (P x) (P v)
    have e3 := ge_swp2 (P u) (P y) (P v)
    refine ⟨by omega, ?_, by omega, by omega⟩
    apply Classical.byContradiction; intro h
    have e4 := ge_swp (P u) (P y) (P v)
    rcases Int.lt_or_eq_of_le (Int.not_lt.mp h) with h | h
    · exact M.empty ht hv ⟨h1, h, by omega⟩
    · refine M.clear (M.rot ht) hv ?_ ?_ ?_
      · intro e; subst e; rw [ge_ori_abb] at h1; omega
      · intro e; subst e; rw [ge_ori_abb] at h2; omega
      · have e5 := ge_swp (P u) (P v) (P x)
        have e6 := ge_swp (P u) (P v) (P y)
        have e7 := ge_ori_aba (P v) (P u)
        exact ge_btw_ori (p := P v) (q := P u) h.symm (by omega) (by omega) (by omega)
  have nbr : ∀ x, (∃ c, T u x c ∨ T x u c) → x < n ∧ u ≠ x := by
    rintro x ⟨c, h | h⟩
    · exact ⟨(M.lt h).2.1, (M.ne h).1⟩
    · exact ⟨(M.lt h).1, (M.ne h).1.symm⟩
  by_cases hA : ∃ x, ge_Edge T u x ∧ 0 < ge_ori (P u) (P x) (P v)
  · obtain ⟨x0, hx0, hp0⟩ := hA
    obtain ⟨x, hx, hmax⟩ := ge_fin_max
      ((List.range n).filter fun x => decide (ge_Edge T u x ∧ 0 < ge_ori (P u) (P x) (P v)))
      (fun x y => 0 < ge_ori (P u) (P x) (P v) ∧ 0 < ge_ori (P u) (P y) (P v) ∧ 0 < ge_ori (P u) (P x) (P y))
      (by intro x h; rw [ge_ori_abb] at h; omega)
      (by intro x y z h k; exact ⟨h.1, k.2.1, ge_ang_tr h.1 h.2.1 k.2.1 h.2.2 k.2.2⟩)
      x0 (by simp; exact ⟨(nbr x0 hx0).1, hx0, hp0⟩)
    simp at hx
    obtain ⟨hxn, hxe, hxp⟩ := hx
    have hT : ∃ y, T u x y := by
      obtain ⟨c, h | h⟩ := hxe
      · exact ⟨c, h⟩
      · exact M.ext h hv hxp
    obtain ⟨y, hy⟩ := hT
    have hyl := M.lt hy
    have hyp := M.pos hy
    have hye : ge_Edge T u y := ⟨x, Or.inr (M.rot (M.rot hy))⟩
    rcases Int.lt_trichotomy (ge_ori (P u) (P y) (P v)) 0 with h | h | h
    · exact Or.inr (cone x y hy hxp h)
    · left
      have : y = v := ge_ray_same hv hyl.2.2 huv (M.ne hy).2.2 clr (fun w hw h1 h2 => M.clearE hye hw h1 h2) h hyp hxp
      rw [← this]; exact hye
    · exact absurd ⟨hxp, h, hyp⟩ (hmax y (by simp; exact ⟨hyl.2.2, hye, h⟩))
  · have hA' : ∀ x, ge_Edge T u x → ge_ori (P u) (P x) (P v) ≤ 0 := fun x hx => by
      apply Classical.byContradiction; intro h; exact hA ⟨x, hx, by omega⟩
    have hB : ∃ x, ge_Edge T u x ∧ ge_ori (P u) (P x) (P v) < 0 := by
      obtain ⟨b, c, h⟩ := M.full hu
      have hp := M.pos h
      have hb : ge_Edge T u b := ⟨c, Or.inl h⟩
      have hc : ge_Edge T u c := ⟨b, Or.inr (M.rot (M.rot h))⟩
      have h1 := hA' b hb
      have h2 := hA' c hc
      by_cases k1 : ge_ori (P u) (P b) (P v) < 0
      · exact ⟨b, hb, k1⟩
      by_cases k2 : ge_ori (P u) (P c) (P v) < 0
      · exact ⟨c, hc, k2⟩
      exfalso
      have z1 : ge_ori (P u) (P b) (P v) = 0 := by omega
      have z2 : ge_ori (P u) (P c) (P v) = 0 := by omega
      apply huv
      apply inj u v hu hv
      · have e : ge_ori (P u) (P b) (P c) * ((P v).x - (P u).x) =
            ge_ori (P u) (P b) (P v) * ((P c).x - (P u).x) - ge_ori (P u) (P c) (P v) * ((P b).x - (P u).x) := by
          unfold ge_ori; grind
        rw [z1, z2] at e
        have : ge_ori (P u) (P b) (P c) * ((P v).x - (P u).x) = 0 := by grind
        rcases Int.mul_eq_zero.mp this with h | h <;> omega
      · have e : ge_ori (P u) (P b) (P c) * ((P v).y - (P u).y) =
            ge_ori (P u) (P b) (P v) * ((P c).y - (P u).y) - ge_ori (P u) (P c) (P v) * ((P b).y - (P u).y) := by
          unfold ge_ori; grind
        rw [z1, z2] at e
        have : ge_ori (P u) (P b) (P c) * ((P v).y - (P u).y) = 0 := by grind
        rcases Int.mul_eq_zero.mp this with h | h <;> omega
    obtain ⟨x0, hx0, hp0⟩ := hB
    obtain ⟨x, hx, hmax⟩ := ge_fin_max
      ((List.range n).filter fun x => decide (ge_Edge T u x ∧ ge_ori (P u) (P x) (P v) < 0))
      (fun x y => ge_ori (P u) (P x) (P v) < 0 ∧ ge_ori (P u) (P y) (P v) < 0 ∧ 0 < ge_ori (P u) (P y) (P x))
      (by intro x h; rw [ge_ori_abb] at h; omega)
      (by
        intro x y z h k
        refine ⟨h.1, k.2.1, ?_⟩
        have e := ge_plu (P u) (P z) (P y) (P x) (P v)
        have m1 := ge_mpn k.2.2 h.1
        have m2 := ge_mnp k.2.1 h.2.2
        have := ge_pos_of_mul (a := - ge_ori (P u) (P y) (P v)) (b := ge_ori (P u) (P z) (P x)) (by omega) (by grind)
        exact this)
      x0 (by simp; exact ⟨(nbr x0 hx0).1, hx0, hp0⟩)
    simp at hx
    obtain ⟨hxn, hxe, hxp⟩ := hx
    have hT : ∃ y, T x u y := by
      obtain ⟨c, h | h⟩ := hxe
      · exact M.ext h hv (by have := ge_swp (P u) (P x) (P v); omega)
      · exact ⟨c, h⟩
    obtain ⟨y, hy⟩ := hT
    have hyl := M.lt hy
    have hyp := M.pos (M.rot hy)
    have hye : ge_Edge T u y := ⟨x, Or.inl (M.rot hy)⟩
    have hle := hA' y hye
    left
    by_cases h : ge_ori (P u) (P y) (P v) < 0
    · exact absurd ⟨hxp, h, hyp⟩ (hmax y (by simp; exact ⟨hyl.2.2, hye, h⟩))
    · have hz : ge_ori (P u) (P y) (P v) = 0 := by omega
      have : y = v := by
        apply Classical.byContradiction; intro hne
        have e0 := ge_ori_aba (P x) (P u)
        have e1 := ge_rot2 (P u) (P y) (P v)
        have e2 := ge_swp2 (P u) (P y) (P v)
        have e3 := ge_rot2 (P u) (P v) (P y)
        have f1 := ge_rot (P x) (P u) (P y)
        have f2 := ge_swp (P u) (P x) (P v)
        have f0 := ge_ori_abb (P x) (P u)
        by_cases hc : ge_ori (P x) (P u) (P y) ≤ ge_ori (P x) (P u) (P v)
        · apply clr y hyl.2.2 (M.ne hy).2.1.symm hne
          apply ge_Btw_comm
          exact ge_btw_ori (p := P x) (q := P u) (u := P v) (v := P u) (by omega) (by omega) (by omega) (by omega)
        · apply M.clear (M.rot hy) hv huv.symm (Ne.symm hne)
          apply ge_Btw_comm
          exact ge_btw_ori (p := P x) (q := P u) (u := P y) (v := P u) (by omega) (by omega) (by omega) (by omega)
      rw [← this]; exact hye

/-- Two empty triangles over one side, sides not crossing, are one. -/
theorem ge_two_tri {a b c d : ge_Pt} (h1 : 0 < ge_ori a b c) (h2 : 0 < ge_ori a b d)
    (i1 : ¬ (0 < ge_ori a b d ∧ 0 < ge_ori b c d ∧ 0 < ge_ori c a d))
    (i2 : ¬ (0 < ge_ori a b c ∧ 0 < ge_ori b d c ∧ 0 < ge_ori d a c))
    (x1 : ¬ ge_Cr a c b d) (x2 : ¬ ge_Cr a d b c) (z1 : ge_ori a c d ≠ 0) (z2 : ge_ori b c d ≠ 0) : False := by
  have e1 := ge_swp a c d
  have e2 := ge_swp2 b c d
  have e3 := ge_rot2 a c d
  have e4 := ge_swp2 a b c
  have e5 := ge_swp2 a b d
  have e6 := ge_rot a b d
  have e7 := ge_rot a b c
  have e8 := ge_swp2 a c d
  rcases Int.lt_or_gt_of_ne z1 with k1 | k1 <;> rcases Int.lt_or_gt_of_ne z2 with k2 | k2
  · exact x2 ⟨ge_mul_neg_iff.mpr (by omega), ge_mul_neg_iff.mpr (by omega)⟩
  · exact i1 ⟨h2, by omega, by omega⟩
  · exact i2 ⟨h1, by omega, by omega⟩
  · exact x1 ⟨ge_mul_neg_iff.mpr (by omega), ge_mul_neg_iff.mpr (by omega)⟩

/-- Sides of one good mesh are sides of any other over the same links. -/
theorem ge_edges_sub {T1 T2 : Nat → Nat → Nat → Prop} (M1 : ge_Mesh n P T1) (M2 : ge_Mesh n P T2) (inj : ge_Inj n P)
    (g1 : ge_Good P T1 L) (g2 : ge_Good P T2 L) (l1 : ∀ a b, L a b → ge_Edge T1 a b) (l2 : ∀ a b, L a b → ge_Edge T2 a b)
    {u v w : Nat} (h : T2 u v w) : ge_Edge T1 u v := by
  have lu := M2.lt h
  have clr := M2.clearT h
  have hE : ge_Edge T2 u v := ⟨w, Or.inl h⟩
  rcases M1.star inj lu.1 lu.2.1 (M2.ne h).1 clr with he | ⟨p, q, ht, hx⟩
  · exact he
  exfalso
  have b1 := M1.below g1 lu.1 lu.2.1 clr (fun a b hl => M2.crossE (l2 a b hl) hE) ht hx
  have lp := M1.lt ht
  have hE1 : ge_Edge T1 p q := ⟨u, Or.inl ht⟩
  have hx2 : ge_Xs (P u) (P v) (P q) (P p) := ge_Xs_turn hx
  have b2 := M2.below g2 lp.2.1 lp.1 (M1.clearT ht).symm
    (fun a b hl => M1.crossE (l1 a b hl) hE1.symm) h hx2
  rw [ge_Dd_uvqp] at b2
  omega

theorem ge_mesh_unique {T1 T2 : Nat → Nat → Nat → Prop} (M1 : ge_Mesh n P T1) (M2 : ge_Mesh n P T2) (inj : ge_Inj n P)
    (g1 : ge_Good P T1 L) (g2 : ge_Good P T2 L) (l1 : ∀ a b, L a b → ge_Edge T1 a b) (l2 : ∀ a b, L a b → ge_Edge T2 a b)
    {a b c : Nat} (h : T1 a b c) : T2 a b c := by
  have sub := fun {u v w} (h : T1 u v w) => ge_edges_sub (L := L) M2 M1 inj g2 g1 l2 l1 h
  have hab := sub h
  have hbc := sub (M1.rot h)
  have hca := sub (M1.rot (M1.rot h))
  have hl := M1.lt h
  have hp := M1.pos h
  have hd : ∃ d, T2 a b d := by
    obtain ⟨d, k | k⟩ := hab
    · exact ⟨d, k⟩
    · exact M2.ext k hl.2.2 hp
  obtain ⟨d, hd⟩ := hd
  have hld := M2.lt hd
  have hpd := M2.pos hd
  by_cases hcd : c = d
  · rw [hcd]; exact hd
  exfalso
  have sub2 := fun {u v w} (h : T2 u v w) => ge_edges_sub (L := L) M1 M2 inj g1 g2 l1 l2 h
  have hbd1 := sub2 (M2.rot hd)
  have hda1 := sub2 (M2.rot (M2.rot hd))
  refine ge_two_tri hp hpd (M1.empty h hld.2.2) (M2.empty hd hl.2.2) ?_ ?_ ?_ ?_
  · exact M2.crossE hca.symm ⟨a, Or.inl (M2.rot hd)⟩
  · exact fun hx => M1.crossE hda1.symm ⟨a, Or.inl (M1.rot h)⟩ hx
  · intro hz
    apply hcd
    exact (ge_ray_same (x := b) hld.2.2 hl.2.2 (M2.ne hd).2.2 (M1.ne h).2.2
      (fun w hw k1 k2 => M1.clearE hda1.symm hw k1 k2) (fun w hw k1 k2 => M2.clearE hca.symm hw k1 k2) hz hp hpd)
  · intro hz
    apply hcd
    have e1 := ge_swp (P a) (P b) (P c)
    have e2 := ge_swp (P a) (P b) (P d)
    exact (ge_ray_same' (x := a) hld.2.2 hl.2.2 (M2.ne hd).2.1 (M1.ne h).2.1
      (fun w hw k1 k2 => M1.clearE hbd1 hw k1 k2) (fun w hw k1 k2 => M2.clearE hbc hw k1 k2) hz (by omega) (by omega))
