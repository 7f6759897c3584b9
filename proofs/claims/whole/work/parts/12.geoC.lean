/-- What a mesh of triangles over the points P 0 .. P (n-1) is, but for the goodness of its sides. -/
def ge_Mesh (n : Nat) (P : Nat → ge_Pt) (T : Nat → Nat → Nat → Prop) : Prop :=
  (∀ a b c, T a b c → a < n ∧ b < n ∧ c < n) ∧
  (∀ a b c, T a b c → 0 < ge_ori (P a) (P b) (P c)) ∧
  (∀ a b c, T a b c → T b c a) ∧
  (∀ a b c d, T a b c → T a b d → c = d) ∧
  (∀ a b c v, T b a c → v < n → 0 < ge_ori (P a) (P b) (P v) → ∃ d, T a b d) ∧
  (∀ a b c v, T a b c → v < n → v ≠ a → v ≠ b → ¬ ge_Btw (P a) (P b) (P v)) ∧
  (∀ a b c d e f, T a b c → T d e f → ¬ ge_Cr (P a) (P b) (P d) (P e)) ∧
  (∀ a b c v, T a b c → v < n → ¬ (0 < ge_ori (P a) (P b) (P v) ∧ 0 < ge_ori (P b) (P c) (P v) ∧ 0 < ge_ori (P c) (P a) (P v))) ∧
  (∀ a, a < n → ∃ b c, T a b c)
theorem ge_Mesh.lt {n : Nat} {P : Nat → ge_Pt} {T : Nat → Nat → Nat → Prop} (M : ge_Mesh n P T) {a b c : Nat} : T a b c → a < n ∧ b < n ∧ c < n := M.1 a b c
theorem ge_Mesh.pos {n : Nat} {P : Nat → ge_Pt} {T : Nat → Nat → Nat → Prop} (M : ge_Mesh n P T) {a b c : Nat} : T a b c → 0 < ge_ori (P a) (P b) (P c) := M.2.1 a b c
theorem ge_Mesh.rot {n : Nat} {P : Nat → ge_Pt} {T : Nat → Nat → Nat → Prop} (M : ge_Mesh n P T) {a b c : Nat} : T a b c → T b c a := M.2.2.1 a b c
theorem ge_Mesh.uni {n : Nat} {P : Nat → ge_Pt} {T : Nat → Nat → Nat → Prop} (M : ge_Mesh n P T) {a b c d : Nat} : T a b c → T a b d → c = d := M.2.2.2.1 a b c d
theorem ge_Mesh.ext {n : Nat} {P : Nat → ge_Pt} {T : Nat → Nat → Nat → Prop} (M : ge_Mesh n P T) {a b c v : Nat} : T b a c → v < n → 0 < ge_ori (P a) (P b) (P v) → ∃ d, T a b d := M.2.2.2.2.1 a b c v
theorem ge_Mesh.clear {n : Nat} {P : Nat → ge_Pt} {T : Nat → Nat → Nat → Prop} (M : ge_Mesh n P T) {a b c v : Nat} : T a b c → v < n → v ≠ a → v ≠ b → ¬ ge_Btw (P a) (P b) (P v) := M.2.2.2.2.2.1 a b c v
theorem ge_Mesh.cross {n : Nat} {P : Nat → ge_Pt} {T : Nat → Nat → Nat → Prop} (M : ge_Mesh n P T) {a b c d e f : Nat} : T a b c → T d e f → ¬ ge_Cr (P a) (P b) (P d) (P e) := M.2.2.2.2.2.2.1 a b c d e f
theorem ge_Mesh.empty {n : Nat} {P : Nat → ge_Pt} {T : Nat → Nat → Nat → Prop} (M : ge_Mesh n P T) {a b c v : Nat} : T a b c → v < n → ¬ (0 < ge_ori (P a) (P b) (P v) ∧ 0 < ge_ori (P b) (P c) (P v) ∧ 0 < ge_ori (P c) (P a) (P v)) := M.2.2.2.2.2.2.2.1 a b c v
theorem ge_Mesh.full {n : Nat} {P : Nat → ge_Pt} {T : Nat → Nat → Nat → Prop} (M : ge_Mesh n P T) {a : Nat} : a < n → ∃ b c, T a b c := M.2.2.2.2.2.2.2.2 a
theorem ge_Mesh.mk {n : Nat} {P : Nat → ge_Pt} {T : Nat → Nat → Nat → Prop}
    (lt : ∀ {a b c : Nat}, T a b c → a < n ∧ b < n ∧ c < n)
    (pos : ∀ {a b c : Nat}, T a b c → 0 < ge_ori (P a) (P b) (P c))
    (ge_rot : ∀ {a b c : Nat}, T a b c → T b c a)
    (uni : ∀ {a b c d : Nat}, T a b c → T a b d → c = d)
    (ext : ∀ {a b c v : Nat}, T b a c → v < n → 0 < ge_ori (P a) (P b) (P v) → ∃ d, T a b d)
    (clear : ∀ {a b c v : Nat}, T a b c → v < n → v ≠ a → v ≠ b → ¬ ge_Btw (P a) (P b) (P v))
    (cross : ∀ {a b c d e f : Nat}, T a b c → T d e f → ¬ ge_Cr (P a) (P b) (P d) (P e))
    (empty : ∀ {a b c v : Nat}, T a b c → v < n → ¬ (0 < ge_ori (P a) (P b) (P v) ∧ 0 < ge_ori (P b) (P c) (P v) ∧ 0 < ge_ori (P c) (P a) (P v)))
    (full : ∀ {a : Nat}, a < n → ∃ b c, T a b c)
    : ge_Mesh n P T :=
  ⟨fun _ _ _ => lt, fun _ _ _ => pos, fun _ _ _ => ge_rot, fun _ _ _ _ => uni, fun _ _ _ _ => ext, fun _ _ _ _ => clear, fun _ _ _ _ _ _ => cross, fun _ _ _ _ => empty, fun _ => full⟩

def ge_Inj (n : Nat) (P : Nat → ge_Pt) : Prop :=
  ∀ i j, i < n → j < n → (P i).x = (P j).x → (P i).y = (P j).y → i = j

def ge_Clear (n : Nat) (P : Nat → ge_Pt) (a b : Nat) : Prop :=
  ∀ v, v < n → v ≠ a → v ≠ b → ¬ ge_Btw (P a) (P b) (P v)

def ge_Good (P : Nat → ge_Pt) (T : Nat → Nat → Nat → Prop) (L : Nat → Nat → Prop) : Prop :=
  ∀ a b c d, T a b c → T b a d → ¬ L a b → ge_Dd (P a) (P b) (P c) (P d) < 0

def ge_Edge (T : Nat → Nat → Nat → Prop) (a b : Nat) : Prop := ∃ c, T a b c ∨ T b a c

variable {n : Nat} {P : Nat → ge_Pt} {T : Nat → Nat → Nat → Prop} {L : Nat → Nat → Prop}

theorem ge_Edge.symm {a b : Nat} (h : ge_Edge T a b) : ge_Edge T b a := by
  obtain ⟨c, h | h⟩ := h
  · exact ⟨c, Or.inr h⟩
  · exact ⟨c, Or.inl h⟩

theorem ge_Mesh.clearE (M : ge_Mesh n P T) {a b v : Nat} (h : ge_Edge T a b) (hv : v < n) (h1 : v ≠ a) (h2 : v ≠ b) :
    ¬ ge_Btw (P a) (P b) (P v) := by
  obtain ⟨c, h | h⟩ := h
  · exact M.clear h hv h1 h2
  · exact fun hb => M.clear h hv h2 h1 (ge_Btw_comm hb)

theorem ge_Cr_comm {a b c d : ge_Pt} (h : ge_Cr a b c d) : ge_Cr b a c d := by
  refine ⟨?_, ?_⟩
  · rw [ge_swp a b c, ge_swp a b d, Int.neg_mul_neg]; exact h.1
  · rw [Int.mul_comm]; exact h.2
theorem ge_Cr_swap {a b c d : ge_Pt} (h : ge_Cr a b c d) : ge_Cr c d a b := ⟨h.2, h.1⟩

theorem ge_Mesh.crossE (M : ge_Mesh n P T) {a b d e : Nat} (h : ge_Edge T a b) (k : ge_Edge T d e) :
    ¬ ge_Cr (P a) (P b) (P d) (P e) := by
  obtain ⟨c, h | h⟩ := h <;> obtain ⟨f, k | k⟩ := k
  · exact M.cross h k
  · exact fun x => M.cross h k (ge_Cr_swap (ge_Cr_comm (ge_Cr_swap x)))
  · exact fun x => M.cross h k (ge_Cr_comm x)
  · exact fun x => M.cross h k (ge_Cr_swap (ge_Cr_comm (ge_Cr_swap (ge_Cr_comm x))))

theorem ge_Xs_Cr {p q u v : ge_Pt} (h : ge_Xs p q u v) : ge_Cr p q u v := (ge_Cr_iff p q u v).mpr (Or.inl h)

theorem ge_ori_ne {a b c : ge_Pt} (h : ge_ori a b c ≠ 0) : (a.x ≠ b.x ∨ a.y ≠ b.y) := by
  apply Classical.byContradiction; intro hh
  apply h; unfold ge_ori; grind

/-- The order by height of the plane over v. -/
def ge_Hi (P : Nat → ge_Pt) (v : Nat) (s t : Nat × Nat × Nat) : Prop :=
  0 < ge_ori (P s.1) (P s.2.1) (P s.2.2) ∧ 0 < ge_ori (P t.1) (P t.2.1) (P t.2.2) ∧
  ge_Dd (P s.1) (P s.2.1) (P s.2.2) (P v) * ge_ori (P t.1) (P t.2.1) (P t.2.2) <
  ge_Dd (P t.1) (P t.2.1) (P t.2.2) (P v) * ge_ori (P s.1) (P s.2.1) (P s.2.2)

theorem ge_Hi_tr {v : Nat} (x y z : Nat × Nat × Nat) (h : ge_Hi P v x y) (k : ge_Hi P v y z) : ge_Hi P v x z := by
  unfold ge_Hi at *
  obtain ⟨h1, h2, h3⟩ := h
  obtain ⟨_, k2, k3⟩ := k
  refine ⟨h1, k2, ?_⟩
  revert h1 h2 h3 k2 k3
  generalize ge_Dd (P x.1) (P x.2.1) (P x.2.2) (P v) = a
  generalize ge_Dd (P y.1) (P y.2.1) (P y.2.2) (P v) = b
  generalize ge_Dd (P z.1) (P z.2.1) (P z.2.2) (P v) = c
  generalize ge_ori (P x.1) (P x.2.1) (P x.2.2) = r
  generalize ge_ori (P y.1) (P y.2.1) (P y.2.2) = s
  generalize ge_ori (P z.1) (P z.2.1) (P z.2.2) = t
  intro h1 h2 h3 k2 k3
  have m1 := ge_mpp k2 (show 0 < b * r - a * s by omega)
  have m2 := ge_mpp h1 (show 0 < c * s - b * t by omega)
  have := ge_pos_of_mul h2 (b := c * r - a * t) (by grind)
  omega

def ge_triples (n : Nat) : List (Nat × Nat × Nat) :=
  (List.range n).flatMap fun a => (List.range n).flatMap fun b => (List.range n).map fun c => (a, b, c)

theorem ge_mem_triples {n a b c : Nat} : (a, b, c) ∈ ge_triples n ↔ a < n ∧ b < n ∧ c < n := by
  simp [ge_triples]
  constructor
  · rintro ⟨a', h1, b', h2, c', h3, rfl, rfl, rfl⟩; exact ⟨h1, h2, h3⟩
  · rintro ⟨h1, h2, h3⟩; exact ⟨a, h1, b, h2, c, h3, rfl, rfl, rfl⟩

/-- From a side that u v runs over, v lies above the plane of the triangle behind it. -/
theorem ge_Mesh.forward (M : ge_Mesh n P T) (good : ge_Good P T L) {u v : Nat} (hu : u < n) (hv : v < n)
    (clr : ge_Clear n P u v) (nl : ∀ a b, L a b → ¬ ge_Cr (P a) (P b) (P u) (P v)) :
    ∀ p q r, T p q r → ge_Xs (P p) (P q) (P u) (P v) → ge_Dd (P p) (P q) (P r) (P v) < 0 := by
  have main := ge_fin_ind (ge_triples n) (ge_Hi P v) (by intro x h; unfold ge_Hi at h; omega) ge_Hi_tr
    (fun t => T t.1 t.2.1 t.2.2 → ge_Xs (P t.1) (P t.2.1) (P u) (P v) → ge_Dd (P t.1) (P t.2.1) (P t.2.2) (P v) < 0)
    (by
      rintro ⟨p, q, r⟩ _ ih ht hx
      simp only at *
      have hx0 := hx
      obtain ⟨x1, x2, x3, x4⟩ := hx
      have hpv : 0 < ge_ori (P q) (P p) (P v) := by have := ge_swp (P p) (P q) (P v); omega
      obtain ⟨s, hs⟩ := M.ext ht hv hpv
      have hsp := M.pos hs
      have hg := good p q r s ht hs (fun hl => nl p q hl (ge_Xs_Cr hx0))
      have hr := M.pos ht
      by_cases hsv : s = v
      · subst hsv; exact hg
      have hsu : s ≠ u := by
        intro e; subst e
        have := ge_swp (P p) (P q) (P s); omega
      have w := ge_Dd_walk (P p) (P q) (P r) (P s) (P v)
      have m1 := ge_mnp hg hpv
      have fin : ∀ a b c, T a b c → ge_Dd (P a) (P b) (P c) (P v) = ge_Dd (P q) (P p) (P s) (P v) →
          ge_ori (P a) (P b) (P c) = ge_ori (P q) (P p) (P s) → ge_Xs (P a) (P b) (P u) (P v) →
          ge_Dd (P p) (P q) (P r) (P v) < 0 := by
        intro a b c habc e1 e2 hxx
        have h1 : ge_Hi P v (p, q, r) (a, b, c) := by
          refine ⟨hr, by simp only; omega, ?_⟩
          simp only
          rw [e1, e2]
          omega
        have l := M.lt habc
        have := ih (a, b, c) (ge_mem_triples.mpr l) h1 habc hxx
        simp only at this
        rw [e1] at this
        have m2 := ge_mnp this hr
        have := ge_neg_of_mul hsp (b := ge_Dd (P p) (P q) (P r) (P v)) (by grind)
        exact this
      rcases Int.lt_trichotomy (ge_ori (P u) (P v) (P s)) 0 with h | h | h
      · have hxx := ge_exit_right hx0 hsp h
          (by intro hh; exact M.empty hs hv hh)
          (M.clear (M.rot (M.rot hs)) hv (Ne.symm hsv) (by intro e; subst e; rw [ge_ori_abb] at x2; omega))
        exact fin s q p (M.rot (M.rot hs)) (ge_Dd_rot _ _ _ _).symm (ge_rot _ _ _).symm hxx
      · exfalso
        have hss : ge_ori (P p) (P q) (P s) < 0 := by have := ge_swp (P p) (P q) (P s); omega
        by_cases hc : ge_ori (P p) (P q) (P v) ≤ ge_ori (P p) (P q) (P s)
        · exact clr s (M.lt hs).2.2 hsu hsv (ge_btw_ori h (by omega) hc (by omega))
        · apply M.empty hs hv
          -- v lies between the crossing and s
          have i1 : ge_ori (P p) (P s) (P v) * (ge_ori (P p) (P q) (P u) - ge_ori (P p) (P q) (P v)) =
              (-(ge_ori (P u) (P v) (P p))) * (ge_ori (P p) (P q) (P v) - ge_ori (P p) (P q) (P s))
                + ge_ori (P u) (P v) (P s) * (ge_ori (P p) (P q) (P v)) := by unfold ge_ori; grind
          have i2 : ge_ori (P s) (P q) (P v) * (ge_ori (P p) (P q) (P u) - ge_ori (P p) (P q) (P v)) =
              (ge_ori (P u) (P v) (P q)) * (ge_ori (P p) (P q) (P v) - ge_ori (P p) (P q) (P s))
                - ge_ori (P u) (P v) (P s) * (ge_ori (P p) (P q) (P v)) := by unfold ge_ori; grind
          rw [h] at i1 i2
          have k1 := ge_mpp (show 0 < -(ge_ori (P u) (P v) (P p)) by omega)
            (show 0 < ge_ori (P p) (P q) (P v) - ge_ori (P p) (P q) (P s) by omega)
          have k2 := ge_mpp x4 (show 0 < ge_ori (P p) (P q) (P v) - ge_ori (P p) (P q) (P s) by omega)
          have pp : 0 < ge_ori (P p) (P q) (P u) - ge_ori (P p) (P q) (P v) := by omega
          refine ⟨hpv, ge_pos_of_mul pp (by grind), ge_pos_of_mul pp (by grind)⟩
      · have hxx := ge_exit_left hx0 hsp h
          (by intro hh; exact M.empty hs hv hh)
          (M.clear (M.rot hs) hv (by intro e; subst e; rw [ge_ori_aba] at x2; omega) (Ne.symm hsv))
        exact fin p s q (M.rot hs) (ge_Dd_rot _ _ _ _) (ge_rot _ _ _) hxx)
  intro p q r ht hx
  exact main (p, q, r) (ge_mem_triples.mpr (M.lt ht)) ht hx
