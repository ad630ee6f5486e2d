/-! Desk.openAhead -/
def pd_cnt (p : Nat → Bool) : Nat → Nat
  | 0 => 0
  | i + 1 => if p i then pd_cnt p i + 1 else pd_cnt p i
theorem pd_cnt_le (p : Nat → Bool) : ∀ n, pd_cnt p n ≤ n := by
  intro n
  induction n with
  | zero => exact Nat.le_refl _
  | succ n ih => rw [pd_cnt]; split <;> omega
theorem pd_cnt_len (D : Nat → Int) (p q : Nat → Bool) : ∀ n, pd_cnt (fun x => p x && q x) n = ((pd_rk D p n).filter q).length := by
  intro n
  induction n with
  | zero => rfl
  | succ n ih =>
    rw [pd_cnt, pd_rk, ih]
    have ins : ∀ l : List Nat, ((pd_ins D n l).filter q).length = (if q n then 1 else 0) + (l.filter q).length := by
      intro l
      induction l with
      | nil => rw [pd_ins, List.filter_cons]; cases q n <;> simp
      | cons a r ih2 =>
        rw [pd_ins]
        split
        · rw [List.filter_cons]; cases q n <;> simp <;> omega
        · rw [List.filter_cons, List.filter_cons]; cases q a <;> simp [ih2] <;> omega
    cases hp : p n with
    | false => simp
    | true =>
      simp only [Bool.true_and, if_true, ins]
      cases q n <;> simp <;> omega
