/-! PURE: rank, lists of orders by rank -/
def pd_sz (D : Nat → Int) (o : Nat) : Int := D (7 + 9 * o + 1)
def pd_ah (D : Nat → Int) (a b : Nat) : Bool := decide (pd_sz D b < pd_sz D a) || (decide (pd_sz D a = pd_sz D b) && decide (a < b))
theorem pd_ah_iff {D : Nat → Int} {a b : Nat} : pd_ah D a b = true ↔ pd_sz D b < pd_sz D a ∨ (pd_sz D a = pd_sz D b ∧ a < b) := by simp [pd_ah]
theorem pd_ah_trans {D : Nat → Int} {a b c : Nat} (h1 : pd_ah D a b = true) (h2 : pd_ah D b c = true) : pd_ah D a c = true := by
  rw [pd_ah_iff] at *
  omega
theorem pd_ah_asymm {D : Nat → Int} {a b : Nat} (h1 : pd_ah D a b = true) : ¬ pd_ah D b a = true := by
  rw [pd_ah_iff] at *
  omega
theorem pd_ah_irr {D : Nat → Int} {a : Nat} : ¬ pd_ah D a a = true := by
  rw [pd_ah_iff]
  omega
theorem pd_ah_total {D : Nat → Int} {a b : Nat} (h : a ≠ b) (h1 : ¬ pd_ah D a b = true) : pd_ah D b a = true := by
  rw [pd_ah_iff] at *
  omega
def pd_ins (D : Nat → Int) (o : Nat) : List Nat → List Nat
  | [] => [o]
  | x :: r => if pd_ah D o x then o :: x :: r else x :: pd_ins D o r
def pd_rk (D : Nat → Int) (p : Nat → Bool) : Nat → List Nat
  | 0 => []
  | i + 1 => if p i then pd_ins D i (pd_rk D p i) else pd_rk D p i
theorem pd_ins_mem {D : Nat → Int} {o x : Nat} : ∀ l : List Nat, x ∈ pd_ins D o l ↔ x = o ∨ x ∈ l := by
  intro l
  induction l with
  | nil => simp [pd_ins]
  | cons a r ih =>
    rw [pd_ins]
    split
    · simp
    · rw [List.mem_cons, ih, List.mem_cons]
      constructor
      · rintro (h | h | h)
        · exact Or.inr (Or.inl h)
        · exact Or.inl h
        · exact Or.inr (Or.inr h)
      · rintro (h | h | h)
        · exact Or.inr (Or.inl h)
        · exact Or.inl h
        · exact Or.inr (Or.inr h)
theorem pd_rk_mem {D : Nat → Int} {p : Nat → Bool} {x : Nat} : ∀ n, x ∈ pd_rk D p n ↔ x < n ∧ p x = true := by
  intro n
  induction n with
  | zero => simp [pd_rk]
  | succ n ih =>
    rw [pd_rk]
    by_cases hp : p n = true
    · rw [if_pos hp, pd_ins_mem, ih]
      constructor
      · rintro (h | h)
        · subst h; exact ⟨by omega, hp⟩
        · exact ⟨by omega, h.2⟩
      · intro h
        by_cases hx : x = n
        · exact Or.inl hx
        · exact Or.inr ⟨by omega, h.2⟩
    · rw [if_neg hp, ih]
      constructor
      · intro h; exact ⟨by omega, h.2⟩
      · intro h
        by_cases hx : x = n
        · subst hx; exact absurd h.2 hp
        · exact ⟨by omega, h.2⟩
theorem pd_ins_sorted {D : Nat → Int} {o : Nat} : ∀ l : List Nat, o ∉ l → l.Pairwise (fun a b => pd_ah D a b = true) → (pd_ins D o l).Pairwise (fun a b => pd_ah D a b = true) := by
  intro l
  induction l with
  | nil => intro _ _; simp [pd_ins]
  | cons a r ih =>
    intro ho hs
    rw [List.pairwise_cons] at hs
    rw [pd_ins]
    split
    · rename_i h
      refine List.pairwise_cons.mpr ⟨fun b hb => ?_, List.pairwise_cons.mpr hs⟩
      rcases List.mem_cons.mp hb with e | hb
      · rw [e]; exact h
      · exact pd_ah_trans h (hs.1 b hb)
    · rename_i h
      refine List.pairwise_cons.mpr ⟨fun b hb => ?_, ih (fun q => ho (List.mem_cons_of_mem _ q)) hs.2⟩
      rcases (pd_ins_mem r).mp hb with e | hb
      · rw [e]; exact pd_ah_total (fun q => ho (by rw [q]; exact List.mem_cons_self)) h
      · exact hs.1 b hb
theorem pd_rk_sorted {D : Nat → Int} {p : Nat → Bool} : ∀ n, (pd_rk D p n).Pairwise (fun a b => pd_ah D a b = true) := by
  intro n
  induction n with
  | zero => simp [pd_rk]
  | succ n ih =>
    rw [pd_rk]
    split
    · exact pd_ins_sorted _ (fun q => by have := ((pd_rk_mem n).mp q).1; omega) ih
    · exact ih
theorem pd_sorted_nodup {D : Nat → Int} {l : List Nat} (h : l.Pairwise (fun a b => pd_ah D a b = true)) : l.Nodup := by
  refine List.Pairwise.imp (fun {a b} q e => ?_) h
  subst e
  exact pd_ah_irr q
theorem pd_rk_nodup {D : Nat → Int} {p : Nat → Bool} (n : Nat) : (pd_rk D p n).Nodup := pd_sorted_nodup (pd_rk_sorted n)
theorem pd_ins_filter {D : Nat → Int} {q : Nat → Bool} {o : Nat} : ∀ l : List Nat, l.Pairwise (fun a b => pd_ah D a b = true) → (pd_ins D o l).filter q = if q o then pd_ins D o (l.filter q) else l.filter q := by
  intro l
  induction l with
  | nil => intro _; by_cases hq : q o = true <;> simp [pd_ins, hq]
  | cons a r ih =>
    intro hs
    rw [List.pairwise_cons] at hs
    rw [pd_ins]
    by_cases hao : pd_ah D o a = true
    · rw [if_pos hao]
      by_cases hq : q o = true
      · rw [if_pos hq]
        by_cases ha : q a = true
        · simp [hq, ha, pd_ins, hao]
        · have hfr : pd_ins D o (r.filter q) = o :: r.filter q := by
            cases hf : r.filter q with
            | nil => simp [pd_ins]
            | cons b t =>
              have hb : b ∈ r.filter q := by rw [hf]; exact List.mem_cons_self
              have hab := hs.1 b (List.mem_filter.mp hb).1
              rw [pd_ins, if_pos (pd_ah_trans hao hab)]
          simp [hq, ha, hfr]
      · simp [hq]
    · rw [if_neg hao, List.filter_cons, ih hs.2, List.filter_cons]
      by_cases hq : q o = true
      · by_cases ha : q a = true
        · simp [hq, ha, pd_ins, hao]
        · simp [hq, ha]
      · by_cases ha : q a = true <;> simp [hq, ha]
theorem pd_rk_filter {D : Nat → Int} {p q : Nat → Bool} : ∀ n, (pd_rk D p n).filter q = pd_rk D (fun x => p x && q x) n := by
  intro n
  induction n with
  | zero => simp [pd_rk]
  | succ n ih =>
    rw [pd_rk, pd_rk]
    by_cases hp : p n = true
    · rw [if_pos hp, pd_ins_filter _ (pd_rk_sorted n), ih]
      by_cases hq : q n = true <;> simp [hp, hq]
    · rw [if_neg hp, ih]
      simp [hp]
theorem pd_rk_congr {D : Nat → Int} {p q : Nat → Bool} : ∀ n, (∀ i, i < n → p i = q i) → pd_rk D p n = pd_rk D q n := by
  intro n
  induction n with
  | zero => intro _; rfl
  | succ n ih =>
    intro h
    rw [pd_rk, pd_rk, h n (by omega), ih (fun i hi => h i (by omega))]
theorem pd_rk_len {D : Nat → Int} {p q : Nat → Bool} (n : Nat) (h : ∀ i, i < n → q i = true → p i = true) : (pd_rk D q n).length ≤ (pd_rk D p n).length := by
  have e : pd_rk D q n = (pd_rk D p n).filter q := by
    rw [pd_rk_filter]
    refine pd_rk_congr n (fun i hi => ?_)
    by_cases hq : q i = true
    · simp [hq, h i hi hq]
    · simp [hq]
  rw [e]
  exact List.length_filter_le _ _
/-- where a back insertion stops, the front one puts it -/
theorem pd_ins_at {D : Nat → Int} {o : Nat} : ∀ (l : List Nat) (k : Nat), k ≤ l.length → l.Pairwise (fun a b => pd_ah D a b = true) → (∀ (j x : Nat), k ≤ j → l[j]? = some x → pd_ah D o x = true) → (∀ x, l[k - 1]? = some x → 0 < k → ¬ pd_ah D o x = true) → pd_ins D o l = l.take k ++ o :: l.drop k := by
  intro l
  induction l with
  | nil => intro k hk _ _ _; simp at hk; subst hk; rfl
  | cons a r ih =>
    intro k hk hs h1 h2
    rw [List.pairwise_cons] at hs
    cases k with
    | zero =>
      rw [pd_ins, if_pos (h1 0 a (by omega) rfl)]
      rfl
    | succ k =>
      have hna : ¬ pd_ah D o a = true := by
        intro q
        have hk2 : k < (a :: r).length := by simp at hk ⊢; omega
        have hx := h2 ((a :: r)[k]) (by simp [List.getElem?_eq_getElem hk2]) (by omega)
        cases k with
        | zero => exact hx q
        | succ k =>
          refine hx (pd_ah_trans q (hs.1 _ ?_))
          simp
      rw [pd_ins, if_neg hna]
      have := ih k (by simpa using hk) hs.2 (fun j x hj hx => h1 (j + 1) x (by omega) (by simpa using hx)) (fun x hx hk0 => h2 x (by
        have e : k + 1 - 1 = (k - 1) + 1 := by omega
        rw [e]; simpa using hx) (by omega))
      rw [this]
      rfl
