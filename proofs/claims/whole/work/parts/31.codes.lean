/-! PURE: the reference's codes are the sets, those with the first by rank first -/
theorem bc_bit_nat (c j : Nat) (hc : c < 2 ^ 31) (hj : j < 32) : bc_bit (c : Int) j = c.testBit j := by
  unfold bc_bit
  have e : (Int32.ofInt (c : Int)).toBitVec = BitVec.ofNat 32 c := by
    show (Int32.ofNat c).toBitVec = _
    rfl
  rw [e, BitVec.getLsbD_ofNat]
  simp [hj]
theorem pd_tb (c j : Nat) : c.testBit j = true ↔ 2 ^ j ≤ c % 2 ^ (j + 1) := by
  rw [Nat.testBit_eq_decide_div_mod_eq, decide_eq_true_eq, Nat.pow_succ, Nat.mod_mul]
  have h1 : c % 2 ^ j < 2 ^ j := Nat.mod_lt _ (Nat.two_pow_pos j)
  have h2 : c / 2 ^ j % 2 = 0 ∨ c / 2 ^ j % 2 = 1 := by omega
  rcases h2 with e | e <;> rw [e] <;> constructor <;> intro h
  · omega
  · simp at h; omega
  · simp
  · rfl
theorem pd_mod1 (c j : Nat) (h : 2 ^ j ≤ c % 2 ^ (j + 1)) : c % 2 ^ (j + 1) - 2 ^ j = c % 2 ^ j := by
  rw [Nat.pow_succ, Nat.mod_mul] at h ⊢
  have h1 : c % 2 ^ j < 2 ^ j := Nat.mod_lt _ (Nat.two_pow_pos j)
  have h2 : c / 2 ^ j % 2 = 0 ∨ c / 2 ^ j % 2 = 1 := by omega
  rcases h2 with e | e
  · rw [e] at h; simp at h; omega
  · rw [e]; simp
theorem pd_mod0 (c j : Nat) (h : ¬ 2 ^ j ≤ c % 2 ^ (j + 1)) : c % 2 ^ (j + 1) = c % 2 ^ j := by
  rw [Nat.pow_succ, Nat.mod_mul] at h ⊢
  have h2 : c / 2 ^ j % 2 = 0 ∨ c / 2 ^ j % 2 = 1 := by omega
  rcases h2 with e | e
  · rw [e]; simp
  · rw [e] at h; simp at h
def pd_sc : List Nat → Nat → List Nat
  | [], _ => []
  | x :: R, c => if 2 ^ R.length ≤ c then x :: pd_sc R (c - 2 ^ R.length) else pd_sc R c
theorem pd_sc_0 : ∀ R : List Nat, pd_sc R 0 = [] := by
  intro R
  induction R with
  | nil => rfl
  | cons x R ih =>
    have := Nat.two_pow_pos R.length
    rw [pd_sc, if_neg (by omega), ih]
theorem pd_sc_sub : ∀ (R : List Nat) (c : Nat), (pd_sc R c).Sublist R := by
  intro R
  induction R with
  | nil => intro c; exact List.Sublist.refl _
  | cons x R ih =>
    intro c
    rw [pd_sc]
    split
    · exact (ih _).cons_cons x
    · exact (ih _).cons x
def pd_cd (R : List Nat) : Nat → List (List Nat)
  | 0 => []
  | c + 1 => pd_sc R (c + 1) :: pd_cd R c
theorem pd_cd_low {x : Nat} {R : List Nat} : ∀ c, c < 2 ^ R.length → pd_cd (x :: R) c = pd_cd R c := by
  intro c
  induction c with
  | zero => intro _; rfl
  | succ c ih =>
    intro h
    rw [pd_cd, pd_cd, ih (by omega), pd_sc, if_neg (by omega)]
theorem pd_cd_high {x : Nat} {R : List Nat} : ∀ c, c < 2 ^ R.length → pd_cd (x :: R) (2 ^ R.length + c) = (pd_cd R c).map (fun S => x :: S) ++ [x] :: pd_cd (x :: R) (2 ^ R.length - 1) := by
  intro c
  induction c with
  | zero =>
    intro h
    obtain ⟨n, hn⟩ : ∃ n, 2 ^ R.length = n + 1 := ⟨2 ^ R.length - 1, by omega⟩
    rw [Nat.add_zero]
    show pd_cd (x :: R) (2 ^ R.length) = [x] :: pd_cd (x :: R) (2 ^ R.length - 1)
    rw [hn, pd_cd, pd_sc, if_pos (by omega), hn, Nat.sub_self, pd_sc_0]
    rfl
  | succ c ih =>
    intro h
    rw [← Nat.add_assoc, pd_cd, ih (by omega), pd_cd, pd_sc, if_pos (by omega)]
    have e : 2 ^ R.length + c + 1 - 2 ^ R.length = c + 1 := by omega
    rw [e]
    rfl
theorem pd_cd_subs : ∀ R : List Nat, pd_cd R (2 ^ R.length - 1) ++ [[]] = pd_subs (fun _ => false) R := by
  intro R
  induction R with
  | nil => rfl
  | cons x R ih =>
    have hp := Nat.two_pow_pos R.length
    have e : 2 ^ (x :: R).length - 1 = 2 ^ R.length + (2 ^ R.length - 1) := by
      rw [List.length_cons, Nat.pow_succ]; omega
    rw [e, pd_cd_high _ (by omega), pd_cd_low _ (by omega), pd_subs, ← ih]
    simp
theorem pd_scan_cd {V mk : List Nat → Int} {R : List Nat} {a : Int × Int} (h0 : V [] ≤ 0) (ha : 0 ≤ a.1) : pd_scan V mk (pd_cd R (2 ^ R.length - 1)) a = pd_scan V mk (pd_subs (fun _ => false) R) a := by
  rw [← pd_cd_subs, pd_scan_app]
  have := (pd_scan_spec V mk (pd_cd R (2 ^ R.length - 1)) a).1
  show _ = pd_scan V mk [[]] _
  rw [pd_scan, pd_scan, if_neg (by omega)]
theorem pd_subs_congr {p q : Nat → Bool} : ∀ R : List Nat, (∀ x ∈ R, p x = q x) → pd_subs p R = pd_subs q R := by
  intro R
  induction R with
  | nil => intro _; rfl
  | cons x R ih =>
    intro h
    rw [pd_subs, pd_subs, ih (fun y hy => h y (List.mem_cons_of_mem _ hy)), h x List.mem_cons_self]
/-- with leasts no more than sizes the reference's test is that of the sums alone -/
theorem pd_vb_can {D lo hi : Nat → Int} {S : List Nat} (hl : ∀ x ∈ S, 0 ≤ lo x ∧ lo x ≤ hi x) : pd_vb D lo hi S = true ↔ 0 ≤ pd_VM D lo hi S S := by
  have a0 : ∀ f, f < 6 → 0 ≤ pd_sf D lo 0 f S ∧ pd_sf D lo 0 f S ≤ pd_sf D hi 0 f S := fun f _ => ⟨pd_sf_nn S (fun x hx => (hl x hx).1), pd_sf_le S (fun x hx => (hl x hx).2)⟩
  have a1 : ∀ f, f < 6 → 0 ≤ pd_sf D lo 1 f S ∧ pd_sf D lo 1 f S ≤ pd_sf D hi 1 f S := fun f _ => ⟨pd_sf_nn S (fun x hx => (hl x hx).1), pd_sf_le S (fun x hx => (hl x hx).2)⟩
  unfold pd_vb pd_VM pd_vol
  rw [Bool.and_eq_true, decide_eq_true_eq, pd_fl_le]
  constructor
  · intro h
    have hm := (pd_my_iff 6).mp h.1
    have hc : pd_can (fun f => pd_sf D lo 0 f S) (fun f => pd_sf D lo 1 f S) (fun f => pd_sf D hi 0 f S) (fun f => pd_sf D hi 1 f S) = true := pd_can_iff.mpr ⟨hm, h.2.1, h.2.2.1⟩
    rw [if_pos hc]
    have t : 0 ≤ pd_t6 (fun f => pd_sf D lo 0 f S) := by
      have h0 := (a0 0 (by omega)).1; have h1 := (a0 1 (by omega)).1; have h2 := (a0 2 (by omega)).1; have h3 := (a0 3 (by omega)).1; have h4 := (a0 4 (by omega)).1; have h5 := (a0 5 (by omega)).1
      simp only [pd_t6]; omega
    omega
  · intro h
    by_cases hc : pd_can (fun f => pd_sf D lo 0 f S) (fun f => pd_sf D lo 1 f S) (fun f => pd_sf D hi 0 f S) (fun f => pd_sf D hi 1 f S) = true
    · obtain ⟨c1, c2, c3⟩ := pd_can_iff.mp hc
      refine ⟨(pd_my_iff 6).mpr c1, c2, c3, fun f hf => ?_⟩
      exact pd_own c1 a0 a1 hf
    · rw [if_neg hc] at h
      omega
theorem pd_VM_vc {D lo hi : Nat → Int} {S : List Nat} (h : 0 ≤ pd_VM D lo hi S S) : pd_VM D lo hi S S = pd_vc D hi S := by
  unfold pd_VM pd_vol at h ⊢
  split at h
  · rename_i hc
    rw [if_pos hc]; rfl
  · omega
theorem pd_VM_nil {D lo hi : Nat → Int} : pd_VM D lo hi [] [] = 0 := by
  have e : (fun f => pd_sf D lo 0 f []) = (fun _ => (0 : Int)) := rfl
  show pd_vol (fun _ => 0) (fun _ => 0) (fun _ => 0) (fun _ => 0) = 0
  decide +kernel
