/-! PURE: the fills, order by order -/
def pd_st (g : Nat → Int) (x : Nat) (v : Int) : Nat → Int := fun y => if y = x then v else g y
theorem pd_st_x {g : Nat → Int} {x : Nat} {v : Int} : pd_st g x v x = v := if_pos rfl
theorem pd_st_ne {g : Nat → Int} {x y : Nat} {v : Int} (h : y ≠ x) : pd_st g x v y = g y := if_neg h
theorem pd_sf_st_ne {D g : Nat → Int} {x : Nat} {v s : Int} {f : Nat} : ∀ S : List Nat, x ∉ S → pd_sf D (pd_st g x v) s f S = pd_sf D g s f S := by
  intro S
  induction S with
  | nil => intro _; rfl
  | cons a r ih =>
    intro h
    rw [pd_sf, pd_sf, ih (fun q => h (List.mem_cons_of_mem _ q)), pd_st_ne (fun q => h (by rw [q]; exact List.mem_cons_self))]
theorem pd_sf_st {D g : Nat → Int} {x : Nat} {v s : Int} {f : Nat} : ∀ S : List Nat, S.Nodup → x ∈ S → pd_sf D (pd_st g x v) s f S = pd_sf D g s f S + (if D (7 + 9 * x) = s ∧ D (7 + 9 * x + 4) = (f : Int) then v - g x else 0) := by
  intro S
  induction S with
  | nil => intro _ h; simp at h
  | cons a r ih =>
    intro hn h
    rw [List.nodup_cons] at hn
    rw [pd_sf, pd_sf]
    by_cases e : x = a
    · subst e
      rw [pd_sf_st_ne r hn.1, pd_st_x]
      split <;> omega
    · have hr : x ∈ r := by
        rcases List.mem_cons.mp h with q | q
        · exact absurd q e
        · exact q
      rw [ih hn.2 hr, pd_st_ne (fun q => e q.symm)]
      omega
theorem pd_ss_st_ne {D g : Nat → Int} {x : Nat} {v s : Int} : ∀ S : List Nat, x ∉ S → pd_ss D (pd_st g x v) s S = pd_ss D g s S := by
  intro S
  induction S with
  | nil => intro _; rfl
  | cons a r ih =>
    intro h
    rw [pd_ss, pd_ss, ih (fun q => h (List.mem_cons_of_mem _ q)), pd_st_ne (fun q => h (by rw [q]; exact List.mem_cons_self))]
theorem pd_ss_st {D g : Nat → Int} {x : Nat} {v s : Int} : ∀ S : List Nat, S.Nodup → x ∈ S → pd_ss D (pd_st g x v) s S = pd_ss D g s S + (if D (7 + 9 * x) = s then v - g x else 0) := by
  intro S
  induction S with
  | nil => intro _ h; simp at h
  | cons a r ih =>
    intro hn h
    rw [List.nodup_cons] at hn
    rw [pd_ss, pd_ss]
    by_cases e : x = a
    · subst e
      rw [pd_ss_st_ne r hn.1, pd_st_x]
      split <;> omega
    · have hr : x ∈ r := by
        rcases List.mem_cons.mp h with q | q
        · exact absurd q e
        · exact q
      rw [ih hn.2 hr, pd_st_ne (fun q => e q.symm)]
      omega
/-- by how much x's side and firm can be raised -/
def pd_spare (D : Nat → Int) (V : Int) (S : List Nat) (lo : Nat → Int) (x : Nat) : Int := min (V - pd_ss D lo (D (7 + 9 * x)) S) (pd_ss D (pd_sz D) (1 - D (7 + 9 * x)) S - pd_sf D (pd_sz D) (1 - D (7 + 9 * x)) (D (7 + 9 * x + 4)).toNat S - pd_sf D lo (D (7 + 9 * x)) (D (7 + 9 * x + 4)).toNat S)
def pd_q (D : Nat → Int) (V : Int) (S : List Nat) (lo : Nat → Int) (x : Nat) : Int := lo x + min (pd_spare D V S lo x) (pd_sz D x - lo x)
def pd_fs (D : Nat → Int) (V : Int) (S : List Nat) (p : Nat → Bool) : List Nat → (Nat → Int) → (Nat → Int)
  | [], lo => lo
  | x :: r, lo => if p x then pd_fs D V S p r (pd_st lo x (pd_q D V S lo x)) else pd_fs D V S p r lo
theorem pd_fs_filter {D : Nat → Int} {V : Int} {S : List Nat} {p : Nat → Bool} : ∀ (l : List Nat) (lo : Nat → Int), pd_fs D V S p (l.filter p) lo = pd_fs D V S p l lo := by
  intro l
  induction l with
  | nil => intro _; rfl
  | cons a r ih =>
    intro lo
    rw [List.filter_cons, pd_fs]
    cases h : p a with
    | true => simp only [if_true]; rw [pd_fs, h, if_pos rfl, ih]
    | false => simp only [Bool.false_eq_true, if_false]; exact ih lo
theorem pd_fs_app {D : Nat → Int} {V : Int} {S : List Nat} {p : Nat → Bool} : ∀ (l m : List Nat) (lo : Nat → Int), pd_fs D V S p (l ++ m) lo = pd_fs D V S p m (pd_fs D V S p l lo) := by
  intro l
  induction l with
  | nil => intro m lo; rfl
  | cons a r ih =>
    intro m lo
    rw [List.cons_append, pd_fs, pd_fs]
    split <;> exact ih _ _
theorem pd_fs_out {D : Nat → Int} {V : Int} {S : List Nat} {p : Nat → Bool} {y : Nat} : ∀ (l : List Nat) (lo : Nat → Int), y ∉ l ∨ ¬ p y = true → pd_fs D V S p l lo y = lo y := by
  intro l
  induction l with
  | nil => intro lo _; rfl
  | cons a r ih =>
    intro lo h
    have h' : y ∉ r ∨ ¬ p y = true := h.imp (fun q z => q (List.mem_cons_of_mem _ z)) id
    rw [pd_fs]
    by_cases e : p a = true
    · rw [if_pos e, ih _ h', pd_st_ne (fun q => by
        rcases h with h | h
        · exact h (by rw [q]; exact List.mem_cons_self)
        · rw [q] at h; exact h e)]
    · rw [if_neg e, ih _ h']
/-- no side, no firm over its bound; what was cut was cut at a bound -/
def pd_J (D : Nat → Int) (V : Int) (S : List Nat) (lo hi : Nat → Int) : Prop := (∀ x ∈ S, 0 ≤ lo x ∧ lo x ≤ hi x ∧ hi x ≤ pd_sz D x) ∧ (pd_ss D lo 0 S ≤ V ∧ pd_ss D lo 1 S ≤ V) ∧ (∀ f : Nat, f < 6 → pd_sf D lo 0 f S ≤ pd_ss D (pd_sz D) 1 S - pd_sf D (pd_sz D) 1 f S ∧ pd_sf D lo 1 f S ≤ pd_ss D (pd_sz D) 0 S - pd_sf D (pd_sz D) 0 f S) ∧ ∀ x ∈ S, hi x < pd_sz D x → pd_ss D lo (D (7 + 9 * x)) S = V ∨ pd_sf D lo (D (7 + 9 * x)) (D (7 + 9 * x + 4)).toNat S = pd_ss D (pd_sz D) (1 - D (7 + 9 * x)) S - pd_sf D (pd_sz D) (1 - D (7 + 9 * x)) (D (7 + 9 * x + 4)).toNat S
theorem pd_sf_lt {D g g' : Nat → Int} {s : Int} {f : Nat} : ∀ l : List Nat, pd_sf D g s f l < pd_sf D g' s f l → ∃ x ∈ l, D (7 + 9 * x) = s ∧ D (7 + 9 * x + 4) = (f : Int) ∧ g x < g' x := by
  intro l
  induction l with
  | nil => intro h; simp [pd_sf] at h
  | cons a r ih =>
    intro h
    rw [pd_sf, pd_sf] at h
    by_cases q : pd_sf D g s f r < pd_sf D g' s f r
    · obtain ⟨x, x1, x2⟩ := ih q
      exact ⟨x, List.mem_cons_of_mem _ x1, x2⟩
    · by_cases e : D (7 + 9 * a) = s ∧ D (7 + 9 * a + 4) = (f : Int)
      · rw [if_pos e, if_pos e] at h
        exact ⟨a, List.mem_cons_self, e.1, e.2, by omega⟩
      · rw [if_neg e, if_neg e] at h
        omega
/-- orders of the set are orders of the desk -/
def pd_SO (D : Nat → Int) (S : List Nat) : Prop := S.Nodup ∧ ∀ x ∈ S, pd_O D x
theorem pd_SO_t6 {D : Nat → Int} {S : List Nat} (hS : pd_SO D S) (g : Nat → Int) (s : Int) : pd_t6 (fun f => pd_sf D g s f S) = pd_ss D g s S := pd_ss_eq g s S (fun x hx => (hS.2 x hx).2.2.2.2.1)
theorem pd_J_C {D : Nat → Int} {V : Int} {S : List Nat} {lo hi : Nat → Int} (hS : pd_SO D S) (hV : V = pd_vc D (pd_sz D) S) (hJ : pd_J D V S lo hi) : pd_vb D lo hi S = true ∧ pd_vf D lo S ≤ V ∧ V ≤ pd_vc D hi S := by
  obtain ⟨j1, j2, j3, j4⟩ := hJ
  have a : ∀ s f, 0 ≤ pd_sf D lo s f S ∧ pd_sf D lo s f S ≤ pd_sf D hi s f S ∧ pd_sf D hi s f S ≤ pd_sf D (pd_sz D) s f S := fun s f => ⟨pd_sf_nn S (fun x hx => (j1 x hx).1), pd_sf_le S (fun x hx => (j1 x hx).2.1), pd_sf_le S (fun x hx => (j1 x hx).2.2)⟩
  have b := pd_bounds (L0 := fun f => pd_sf D lo 0 f S) (L1 := fun f => pd_sf D lo 1 f S) (G0 := fun f => pd_sf D hi 0 f S) (G1 := fun f => pd_sf D hi 1 f S) (H0 := fun f => pd_sf D (pd_sz D) 0 f S) (H1 := fun f => pd_sf D (pd_sz D) 1 f S) (V := V) hV (fun f _ => a 0 f) (fun f _ => a 1 f) (by rw [pd_SO_t6 hS]; exact j2.1) (by rw [pd_SO_t6 hS]; exact j2.2) (fun f hf => by rw [pd_SO_t6 hS, pd_SO_t6 hS]; exact j3 f hf) (fun f hf hlt => by
      obtain ⟨x, x1, x2, x3, x4⟩ := pd_sf_lt S hlt
      have r := j4 x x1 x4
      have e : (D (7 + 9 * x + 4)).toNat = f := by omega
      rw [x2, e] at r
      rw [pd_SO_t6 hS, pd_SO_t6 hS]
      exact r) (fun f hf hlt => by
      obtain ⟨x, x1, x2, x3, x4⟩ := pd_sf_lt S hlt
      have r := j4 x x1 x4
      have e : (D (7 + 9 * x + 4)).toNat = f := by omega
      rw [x2, e] at r
      rw [pd_SO_t6 hS, pd_SO_t6 hS]
      exact r)
  have h2 : pd_vf D lo S ≤ V := b.2.1
  have h3 : V ≤ pd_vc D hi S := b.2.2
  refine ⟨?_, h2, h3⟩
  unfold pd_vb
  rw [Bool.and_eq_true, decide_eq_true_eq]
  exact ⟨(pd_my_iff 6).mpr b.1, Int.le_trans h2 h3⟩
theorem pd_J_step {D : Nat → Int} {V : Int} {S : List Nat} {lo hi : Nat → Int} (hS : pd_SO D S) (hJ : pd_J D V S lo hi) {x : Nat} (hx : x ∈ S) : (lo x ≤ pd_q D V S lo x ∧ pd_q D V S lo x ≤ pd_sz D x) ∧ pd_J D V S (pd_st lo x (pd_q D V S lo x)) (pd_st hi x (pd_q D V S lo x)) := by
  obtain ⟨j1, j2, j3, j4⟩ := hJ
  obtain ⟨o0, o1, -, -, o4, -⟩ := hS.2 x hx
  have hf : D (7 + 9 * x + 4) = ((D (7 + 9 * x + 4)).toNat : Int) := by omega
  have hf6 : (D (7 + 9 * x + 4)).toNat < 6 := by omega
  have jx := j1 x hx
  have b := j3 _ hf6
  have sp0 : 0 ≤ pd_spare D V S lo x := by
    unfold pd_spare
    rcases o0 with e | e <;> rw [e] <;> refine Int.le_min.mpr ⟨?_, ?_⟩
    · have := j2.1; omega
    · have := b.1; show 0 ≤ pd_ss D (pd_sz D) 1 S - pd_sf D (pd_sz D) 1 _ S - _; omega
    · have := j2.2; omega
    · have := b.2; show 0 ≤ pd_ss D (pd_sz D) 0 S - pd_sf D (pd_sz D) 0 _ S - _; omega
  have sp1 : pd_spare D V S lo x ≤ V - pd_ss D lo (D (7 + 9 * x)) S := Int.min_le_left _ _
  have sp2 : pd_spare D V S lo x ≤ pd_ss D (pd_sz D) (1 - D (7 + 9 * x)) S - pd_sf D (pd_sz D) (1 - D (7 + 9 * x)) (D (7 + 9 * x + 4)).toNat S - pd_sf D lo (D (7 + 9 * x)) (D (7 + 9 * x + 4)).toNat S := Int.min_le_right _ _
  have sp3 : pd_spare D V S lo x = V - pd_ss D lo (D (7 + 9 * x)) S ∨ pd_spare D V S lo x = pd_ss D (pd_sz D) (1 - D (7 + 9 * x)) S - pd_sf D (pd_sz D) (1 - D (7 + 9 * x)) (D (7 + 9 * x + 4)).toNat S - pd_sf D lo (D (7 + 9 * x)) (D (7 + 9 * x + 4)).toNat S := by
    unfold pd_spare; omega
  have eq : pd_q D V S lo x - lo x = min (pd_spare D V S lo x) (pd_sz D x - lo x) := by unfold pd_q; omega
  generalize pd_spare D V S lo x = sp at sp0 sp1 sp2 sp3 eq
  generalize pd_q D V S lo x = q at eq ⊢
  have q1 : lo x ≤ q := by omega
  have q2 : q ≤ pd_sz D x := by omega
  have q3 : q - lo x ≤ sp := by omega
  refine ⟨⟨q1, q2⟩, fun y hy => ?_, ?_, fun f hf2 => ?_, fun y hy hlt => ?_⟩
  · by_cases e : y = x
    · subst e; rw [pd_st_x, pd_st_x]; omega
    · rw [pd_st_ne e, pd_st_ne e]; exact j1 y hy
  · rw [pd_ss_st S hS.1 hx, pd_ss_st S hS.1 hx]
    rcases o0 with e | e <;> rw [e] at sp1 ⊢ <;> simp <;> omega
  · rw [pd_sf_st S hS.1 hx, pd_sf_st S hS.1 hx]
    have jf := j3 f hf2
    by_cases e2 : D (7 + 9 * x + 4) = (f : Int)
    · have e3 : (D (7 + 9 * x + 4)).toNat = f := by omega
      rw [e3] at sp2
      rcases o0 with e | e
      · rw [e] at sp2 ⊢
        rw [if_pos ⟨rfl, e2⟩, if_neg (fun z => by omega)]
        have sp2' : sp ≤ pd_ss D (pd_sz D) 1 S - pd_sf D (pd_sz D) 1 f S - pd_sf D lo 0 f S := sp2
        omega
      · rw [e] at sp2 ⊢
        rw [if_neg (fun z => by omega), if_pos ⟨rfl, e2⟩]
        have sp2' : sp ≤ pd_ss D (pd_sz D) 0 S - pd_sf D (pd_sz D) 0 f S - pd_sf D lo 1 f S := sp2
        omega
    · rw [if_neg (fun z => e2 z.2), if_neg (fun z => e2 z.2)]
      omega
  · rw [pd_ss_st S hS.1 hx, pd_sf_st S hS.1 hx]
    by_cases e : y = x
    · subst e
      rw [pd_st_x] at hlt
      rw [if_pos rfl, if_pos ⟨rfl, hf⟩]
      rcases sp3 with z | z
      · left; omega
      · right; omega
    · rw [pd_st_ne e] at hlt
      have jy := j4 y hy hlt
      obtain ⟨y0, -, -, -, y4, -⟩ := hS.2 y hy
      by_cases es : D (7 + 9 * x) = D (7 + 9 * y)
      · rw [if_pos es]
        rw [es] at sp1 sp2
        rcases jy with z | z
        · left; omega
        · by_cases ef : D (7 + 9 * x + 4) = ((D (7 + 9 * y + 4)).toNat : Int)
          · rw [if_pos ⟨es, ef⟩]
            have e3 : (D (7 + 9 * x + 4)).toNat = (D (7 + 9 * y + 4)).toNat := by omega
            rw [e3] at sp2
            right; omega
          · rw [if_neg (fun w => ef w.2)]
            right; omega
      · rw [if_neg es, if_neg (fun w => es w.1)]
        rcases jy with z | z
        · left; omega
        · right; omega
/-- more than that can't be had -/
theorem pd_J_max {D : Nat → Int} {V : Int} {S : List Nat} {lo hi : Nat → Int} (hS : pd_SO D S) (hJ : pd_J D V S lo hi) {x : Nat} (hx : x ∈ S) {v : Int} (h1 : pd_q D V S lo x < v) (h2 : v ≤ pd_sz D x) : ¬ (pd_vb D (pd_st lo x v) (pd_st hi x v) S = true ∧ pd_vf D (pd_st lo x v) S ≤ V) := by
  rintro ⟨c1, c2⟩
  obtain ⟨j1, -⟩ := hJ
  obtain ⟨o0, o1, -, -, o4, -⟩ := hS.2 x hx
  have hf : D (7 + 9 * x + 4) = ((D (7 + 9 * x + 4)).toNat : Int) := by omega
  have hf6 : (D (7 + 9 * x + 4)).toNat < 6 := by omega
  unfold pd_vb at c1
  rw [Bool.and_eq_true] at c1
  have m := (pd_my_iff 6).mp c1.1 _ hf6
  obtain ⟨f0, f1, -⟩ := (pd_fl_le 6).mp c2
  rw [pd_SO_t6 hS, pd_SO_t6 hS] at m
  rw [pd_SO_t6 hS] at f0 f1
  rw [pd_ss_st S hS.1 hx] at f0 f1
  rw [pd_sf_st S hS.1 hx (g := lo), pd_sf_st S hS.1 hx (g := lo), pd_ss_st S hS.1 hx (g := hi), pd_ss_st S hS.1 hx (g := hi), pd_sf_st S hS.1 hx (g := hi), pd_sf_st S hS.1 hx (g := hi)] at m
  have g1 : ∀ s : Int, pd_ss D hi s S - pd_sf D hi s (D (7 + 9 * x + 4)).toNat S ≤ pd_ss D (pd_sz D) s S - pd_sf D (pd_sz D) s (D (7 + 9 * x + 4)).toNat S := fun s => by
    have := pd_t6_mono1 (g := fun f => pd_sf D (pd_sz D) s f S) (g' := fun f => pd_sf D hi s f S) (fun f _ => pd_sf_le S (fun y hy => (j1 y hy).2.2)) hf6
    rw [pd_SO_t6 hS, pd_SO_t6 hS] at this
    exact this
  have key : v - lo x ≤ V - pd_ss D lo (D (7 + 9 * x)) S ∧ v - lo x ≤ pd_ss D (pd_sz D) (1 - D (7 + 9 * x)) S - pd_sf D (pd_sz D) (1 - D (7 + 9 * x)) (D (7 + 9 * x + 4)).toNat S - pd_sf D lo (D (7 + 9 * x)) (D (7 + 9 * x + 4)).toNat S := by
    rcases o0 with e | e
    · have m1 := m.1
      have := g1 1
      rw [e] at f0 m1 ⊢
      rw [if_pos rfl] at f0
      rw [if_pos ⟨rfl, hf⟩, if_neg (by decide), if_neg (fun z => absurd z.1 (by decide))] at m1
      refine ⟨by omega, ?_⟩
      show _ ≤ pd_ss D (pd_sz D) 1 S - pd_sf D (pd_sz D) 1 _ S - _
      omega
    · have m1 := m.2
      have := g1 0
      rw [e] at f1 m1 ⊢
      rw [if_pos rfl] at f1
      rw [if_pos ⟨rfl, hf⟩, if_neg (by decide), if_neg (fun z => absurd z.1 (by decide))] at m1
      refine ⟨by omega, ?_⟩
      show _ ≤ pd_ss D (pd_sz D) 0 S - pd_sf D (pd_sz D) 0 _ S - _
      omega
  have eq : pd_q D V S lo x = lo x + min (pd_spare D V S lo x) (pd_sz D x - lo x) := rfl
  have es : pd_spare D V S lo x = min (V - pd_ss D lo (D (7 + 9 * x)) S) (pd_ss D (pd_sz D) (1 - D (7 + 9 * x)) S - pd_sf D (pd_sz D) (1 - D (7 + 9 * x)) (D (7 + 9 * x + 4)).toNat S - pd_sf D lo (D (7 + 9 * x)) (D (7 + 9 * x + 4)).toNat S) := rfl
  have : v - lo x ≤ pd_spare D V S lo x := by rw [es]; exact Int.le_min.mpr key
  omega
