/-! both sides: volume -/
theorem bc_bit_neg {x : Int} (hx : bc_vr x) (hn : x < 0) : bc_bit x 31 = true := by
  have e : (Int32.ofInt x).toInt = x := Int32.toInt_ofInt_of_le (by have := hx.1; omega) (by have := hx.2; omega)
  have m : (Int32.ofInt x).toBitVec.msb = true := by
    rw [BitVec.msb_eq_toInt]
    exact decide_eq_true (by rw [Int32.toInt_toBitVec, e]; exact hn)
  rw [BitVec.msb_eq_getLsbD_last] at m
  exact m
theorem pd_in_iff {x : Int} (hx : bc_vr x) {n : Nat} (hn : n ≤ 24) {p : Nat → Bool} : bc_and x (bc_xor (pd_mask p n) (-1)) = 0 ↔ (0 ≤ x ∧ x < ((2 ^ n : Nat) : Int) ∧ ∀ o : Nat, o < n → bc_bit x o = true → p o = true) := by
  have hx2 := hx.2
  constructor
  · intro q
    have b : ∀ i, i < 32 → bc_bit x i = true → i < n ∧ p i = true := by
      intro i hi hb
      have := congrArg (fun z => bc_bit z i) q
      simp only [bc_bit_and, bc_bit_xor, bc_bit_0, bc_bit_m1 i hi, pd_mask_bit p n i (by omega) hi, hb] at this
      simpa using this
    have h0 : 0 ≤ x := by
      refine Classical.byContradiction (fun c => ?_)
      have := b 31 (by omega) (bc_bit_neg hx (by omega))
      omega
    obtain ⟨c, rfl⟩ := Int.eq_ofNat_of_zero_le h0
    refine ⟨h0, ?_, fun o ho hb => (b o (by omega) hb).2⟩
    have : c < 2 ^ n := by
      refine Nat.lt_pow_two_of_testBit c (fun i hi => ?_)
      by_cases h32 : i < 32
      · have g := b i h32
        rw [bc_bit_nat c i (by omega) h32] at g
        cases ht : c.testBit i with
        | false => rfl
        | true => have := (g ht).1; omega
      · refine Nat.testBit_lt_two_pow ?_
        have : 2 ^ 32 ≤ 2 ^ i := Nat.pow_le_pow_right (by omega) (by omega)
        omega
    exact_mod_cast this
  · rintro ⟨h0, h1, h2⟩
    obtain ⟨c, rfl⟩ := Int.eq_ofNat_of_zero_le h0
    have h1 : c < 2 ^ n := by exact_mod_cast h1
    refine bc_ext (bc_vr_and _ _) (by unfold bc_vr; omega) (fun i hi => ?_)
    rw [bc_bit_and, bc_bit_xor, bc_bit_0, bc_bit_m1 i hi, pd_mask_bit p n i (by omega) hi]
    cases hb : bc_bit (c : Int) i with
    | false => rfl
    | true =>
      have hin : i < n := by
        refine Classical.byContradiction (fun q => ?_)
        rw [bc_bit_nat c i (by omega) hi] at hb
        rw [Nat.testBit_lt_two_pow (Nat.lt_of_lt_of_le h1 (Nat.pow_le_pow_right (by omega) (by omega)))] at hb
        exact absurd hb (by decide)
      rw [h2 i hin hb, decide_eq_true hin]
      rfl
