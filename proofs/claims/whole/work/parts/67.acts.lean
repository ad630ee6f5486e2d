/-! one cell of a desk changes -/
theorem pd_rk_cnt {D : Nat → Int} {p : Nat → Bool} (n : Nat) : (pd_rk D p n).length = pd_cnt p n := by
  have t := pd_cnt_len D p (fun _ => true) n
  rw [List.filter_eq_self.mpr (fun _ _ => rfl)] at t
  simp only [Bool.and_true] at t
  exact t.symm
theorem pd_cnt_mono {p q : Nat → Bool} : ∀ n, (∀ i, i < n → p i = true → q i = true) → pd_cnt p n ≤ pd_cnt q n := by
  intro n
  induction n with
  | zero => intro _; exact Nat.le_refl _
  | succ n ih =>
    intro h
    have := ih (fun i hi => h i (by omega))
    rw [pd_cnt, pd_cnt]
    cases hp : p n with
    | false => split <;> split <;> simp at * <;> omega
    | true => rw [h n (by omega) hp]; simp; exact this
theorem pd_W_iff {D : Nat → Int} : pd_W D ↔ pd_V D ∧ pd_cnt (pd_ob D) (D 0).toNat ≤ 10 := by
  unfold pd_W
  rw [pd_rk_cnt]
/-- class: the cell of row r of order o -/
theorem pd_C_st {D : Nat → Int} {h : bc_AH} (hC : pd_C 4 D h) {o k r : Nat} (hk : (k = 2 ∧ r = 7) ∨ (k = 3 ∧ r = 8) ∨ (k = 5 ∧ r = 10)) {v : Int} : pd_C 4 (pd_st D (7 + 9 * o + k) v) (bc_up h r o v) := by
  obtain ⟨⟨e0, e1, e2, e3, e4, e5, e6⟩, hr⟩ := hC
  refine ⟨⟨?_, ?_, ?_, ?_, ?_, ?_, ?_⟩, fun x hx => ?_⟩
  · rw [bc_up_row (by omega), pd_st_ne (by omega)]; exact e0
  · rw [bc_up_row (by omega), pd_st_ne (by omega)]; exact e1
  · rw [bc_up_row (by omega), pd_st_ne (by omega)]; exact e2
  · rw [bc_up_row (by omega), pd_st_ne (by omega)]; exact e3
  · rw [bc_up_row (by omega), pd_st_ne (by omega)]; exact e4
  · rw [bc_up_row (by omega), pd_st_ne (by omega)]; exact e5
  · rw [bc_up_row (by omega), pd_st_ne (by omega)]; exact e6
  · rw [pd_st_ne (by omega)] at hx
    have q := hr x hx
    by_cases e : x = o
    · subst e
      rcases hk with ⟨rfl, rfl⟩ | ⟨rfl, rfl⟩ | ⟨rfl, rfl⟩ <;> simp (disch := omega) only [pd_st_ne, pd_st_x, bc_up_row, bc_up_at] <;> exact ⟨q.1, q.2.1, by first | trivial | exact q.2.2.1, by first | trivial | exact q.2.2.2.1, q.2.2.2.2.1, by first | trivial | exact q.2.2.2.2.2.1, q.2.2.2.2.2.2.1, q.2.2.2.2.2.2.2⟩
    · rcases hk with ⟨rfl, rfl⟩ | ⟨rfl, rfl⟩ | ⟨rfl, rfl⟩ <;> simp (disch := omega) only [pd_st_ne, bc_up_row, bc_up_nj] <;> exact q
theorem pd_C_st1 {D : Nat → Int} {h : bc_AH} (hC : pd_C 4 D h) {v : Int} : pd_C 4 (pd_st D 1 v) (bc_up h 4 9 v) := by
  obtain ⟨⟨e0, e1, e2, e3, e4, e5, e6⟩, hr⟩ := hC
  refine ⟨⟨?_, ?_, ?_, ?_, ?_, ?_, ?_⟩, fun x hx => ?_⟩
  · rw [bc_up_nj (by omega), pd_st_ne (by omega)]; exact e0
  · rw [bc_up_at, pd_st_x]
  · rw [bc_up_nj (by omega), pd_st_ne (by omega)]; exact e2
  · rw [bc_up_nj (by omega), pd_st_ne (by omega)]; exact e3
  · rw [bc_up_nj (by omega), pd_st_ne (by omega)]; exact e4
  · rw [bc_up_nj (by omega), pd_st_ne (by omega)]; exact e5
  · rw [bc_up_nj (by omega), pd_st_ne (by omega)]; exact e6
  · rw [pd_st_ne (by omega)] at hx
    have q := hr x hx
    simp (disch := omega) only [pd_st_ne, bc_up_row]
    exact q
theorem pd_st_O {D : Nat → Int} {i x : Nat} {v : Int} (h : pd_O D x) (hi : i < 7 + 9 * x ∨ 7 + 9 * x + 5 < i) : pd_O (pd_st D i v) x := by
  unfold pd_O at h ⊢
  rw [pd_st_ne (by omega), pd_st_ne (by omega), pd_st_ne (by omega), pd_st_ne (by omega), pd_st_ne (by omega), pd_st_ne (by omega)]
  exact h
theorem pd_st_ob {D : Nat → Int} {i : Nat} {v : Int} (h0 : i ≠ 0) (hi : ∀ x : Nat, i ≠ 7 + 9 * x + 5) : pd_ob (pd_st D i v) = pd_ob D := by
  funext x
  unfold pd_ob
  have h1 : pd_st D i v 0 = D 0 := pd_st_ne (fun z => h0 z.symm)
  have h2 : pd_st D i v (7 + 9 * x + 5) = D (7 + 9 * x + 5) := pd_st_ne (fun z => hi x z.symm)
  rw [h1, h2]
theorem pd_W_st1 {D : Nat → Int} (hW : pd_W D) {v : Int} (hv : 0 ≤ v ∧ v ≤ 999) : pd_W (pd_st D 1 v) := by
  rw [pd_W_iff] at hW ⊢
  obtain ⟨⟨v0, v1, vo⟩, hc⟩ := hW
  have e0 : pd_st D 1 v 0 = D 0 := pd_st_ne (by omega)
  refine ⟨⟨by rw [e0]; exact v0, by rw [pd_st_x]; exact hv, fun x hx => ?_⟩, ?_⟩
  · rw [e0] at hx
    exact pd_st_O (vo x hx) (by omega)
  · rw [e0, pd_st_ob (by omega) (fun x => by omega)]; exact hc
theorem pd_W_st2 {D : Nat → Int} (hW : pd_W D) {o : Nat} {v : Int} (hv : 1 ≤ v ∧ v ≤ pd_sz D o) : pd_W (pd_st D (7 + 9 * o + 2) v) := by
  rw [pd_W_iff] at hW ⊢
  obtain ⟨⟨v0, v1, vo⟩, hc⟩ := hW
  have e0 : pd_st D (7 + 9 * o + 2) v 0 = D 0 := pd_st_ne (by omega)
  have e1 : pd_st D (7 + 9 * o + 2) v 1 = D 1 := pd_st_ne (by omega)
  refine ⟨⟨by rw [e0]; exact v0, by rw [e1]; exact v1, fun x hx => ?_⟩, ?_⟩
  · rw [e0] at hx
    by_cases e : x = o
    · subst e
      have q := vo x hx
      have es : pd_sz D x = D (7 + 9 * x + 1) := rfl
      unfold pd_O at q ⊢
      simp (disch := omega) only [pd_st_ne, pd_st_x]
      exact ⟨q.1, q.2.1, by omega, q.2.2.2.1, q.2.2.2.2.1, q.2.2.2.2.2.1, fun _ => by omega⟩
    · exact pd_st_O (vo x hx) (by omega)
  · rw [e0, pd_st_ob (by omega) (fun x => by omega)]; exact hc
theorem pd_W_st3 {D : Nat → Int} (hW : pd_W D) {o : Nat} {v : Int} (hv : 0 ≤ v ∧ v ≤ 999) : pd_W (pd_st D (7 + 9 * o + 3) v) := by
  rw [pd_W_iff] at hW ⊢
  obtain ⟨⟨v0, v1, vo⟩, hc⟩ := hW
  have e0 : pd_st D (7 + 9 * o + 3) v 0 = D 0 := pd_st_ne (by omega)
  have e1 : pd_st D (7 + 9 * o + 3) v 1 = D 1 := pd_st_ne (by omega)
  refine ⟨⟨by rw [e0]; exact v0, by rw [e1]; exact v1, fun x hx => ?_⟩, ?_⟩
  · rw [e0] at hx
    by_cases e : x = o
    · subst e
      have q := vo x hx
      unfold pd_O at q ⊢
      simp (disch := omega) only [pd_st_ne, pd_st_x]
      exact ⟨q.1, q.2.1, q.2.2.1, hv, q.2.2.2.2.1, q.2.2.2.2.2.1, q.2.2.2.2.2.2⟩
    · exact pd_st_O (vo x hx) (by omega)
  · rw [e0, pd_st_ob (by omega) (fun x => by omega)]; exact hc
theorem pd_W_st5 {D : Nat → Int} (hW : pd_W D) {o : Nat} : pd_W (pd_st D (7 + 9 * o + 5) 1) := by
  rw [pd_W_iff] at hW ⊢
  obtain ⟨⟨v0, v1, vo⟩, hc⟩ := hW
  have e0 : pd_st D (7 + 9 * o + 5) 1 0 = D 0 := pd_st_ne (by omega)
  have e1 : pd_st D (7 + 9 * o + 5) 1 1 = D 1 := pd_st_ne (by omega)
  refine ⟨⟨by rw [e0]; exact v0, by rw [e1]; exact v1, fun x hx => ?_⟩, ?_⟩
  · rw [e0] at hx
    by_cases e : x = o
    · subst e
      have q := vo x hx
      unfold pd_O at q ⊢
      simp (disch := omega) only [pd_st_ne, pd_st_x]
      exact ⟨q.1, q.2.1, q.2.2.1, q.2.2.2.1, q.2.2.2.2.1, by omega, fun z => by omega⟩
    · exact pd_st_O (vo x hx) (by omega)
  · rw [e0]
    refine Nat.le_trans (pd_cnt_mono _ (fun i hi q => ?_)) hc
    obtain ⟨q1, q2⟩ := pd_ob_iff.mp q
    rw [e0] at q1
    refine pd_ob_iff.mpr ⟨q1, ?_⟩
    by_cases e : i = o
    · subst e; rw [pd_st_x] at q2; omega
    · rw [pd_st_ne (by omega)] at q2; exact q2
theorem pd_SV_push {T D D' : Nat → Int} {n F : Int} {Hs : List (Nat → Int)} (hS : pd_SV T n F D Hs) (hW : pd_W D') : pd_SV T n F D' (pd_push D Hs) := by
  obtain ⟨a, b, c, e, f⟩ := hS
  refine ⟨a, b, hW, ?_, fun E hE => ?_⟩
  · unfold pd_push; rw [List.length_take]; omega
  · rcases List.mem_cons.mp (List.mem_of_mem_take hE) with q | q
    · rw [q]; exact c
    · exact f E q
/-- what an act does: the desk and the history after it -/
def pd_aD (c : Bool) (D D' : Nat → Int) : Nat → Int := if c then D' else D
def pd_aH (c : Bool) (D : Nat → Int) (Hs : List (Nat → Int)) : List (Nat → Int) := if c then pd_push D Hs else Hs
theorem pd_SV_act {T D D' : Nat → Int} {n F : Int} {Hs : List (Nat → Int)} {c : Bool} (hS : pd_SV T n F D Hs) (hW : c = true → pd_W D') : pd_SV T n F (pd_aD c D D') (pd_aH c D Hs) := by
  unfold pd_aD pd_aH
  cases c with
  | true => exact pd_SV_push hS (hW rfl)
  | false => exact hS
