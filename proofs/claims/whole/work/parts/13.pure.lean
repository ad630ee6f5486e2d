/-! PURE WORDS: a desk is a row D of ints as the reference lays it: D 0 count, D 1 midpoint, D 2 runs, D 3 all, D 4 D 5 D 6 the latest; order o from 7 + 9 o on: 0 side, 1 size, 2 least, 3 limit, 4 firm, 5 state, 7 fills, 8 leaks -/
def pd_ob (D : Nat → Int) (o : Nat) : Bool := decide ((o : Int) < D 0) && decide (D (7 + 9 * o + 5) = 0)
def pd_wb (D : Nat → Int) (m : Int) (o : Nat) : Bool := pd_ob D o && (if D (7 + 9 * o) = 1 then decide (m ≤ D (7 + 9 * o + 3)) else decide (D (7 + 9 * o + 3) ≤ m))
theorem pd_ob_iff {D : Nat → Int} {o : Nat} : pd_ob D o = true ↔ (o : Int) < D 0 ∧ D (7 + 9 * o + 5) = 0 := by simp [pd_ob]
theorem pd_wb_iff {D : Nat → Int} {m : Int} {o : Nat} : pd_wb D m o = true ↔ pd_ob D o = true ∧ ((D (7 + 9 * o) = 1 ∧ m ≤ D (7 + 9 * o + 3)) ∨ (¬ D (7 + 9 * o) = 1 ∧ D (7 + 9 * o + 3) ≤ m)) := by
  unfold pd_wb
  by_cases hs : D (7 + 9 * o) = 1 <;> simp [hs]
/-- the ranges of one order -/
def pd_O (D : Nat → Int) (o : Nat) : Prop := (D (7 + 9 * o) = 0 ∨ D (7 + 9 * o) = 1) ∧ (0 ≤ D (7 + 9 * o + 1) ∧ D (7 + 9 * o + 1) ≤ 999) ∧ (0 ≤ D (7 + 9 * o + 2) ∧ D (7 + 9 * o + 2) ≤ 999) ∧ (0 ≤ D (7 + 9 * o + 3) ∧ D (7 + 9 * o + 3) ≤ 999) ∧ (0 ≤ D (7 + 9 * o + 4) ∧ D (7 + 9 * o + 4) ≤ 5) ∧ (0 ≤ D (7 + 9 * o + 5) ∧ D (7 + 9 * o + 5) ≤ 2) ∧ (D (7 + 9 * o + 5) = 0 → 1 ≤ D (7 + 9 * o + 2) ∧ D (7 + 9 * o + 2) ≤ D (7 + 9 * o + 1))
def pd_V (D : Nat → Int) : Prop := (0 ≤ D 0 ∧ D 0 ≤ 24) ∧ (0 ≤ D 1 ∧ D 1 ≤ 999) ∧ ∀ o : Nat, (o : Int) < D 0 → pd_O D o
/-- the class's desk at cell c holds D -/
def pd_C (c : Nat) (D : Nat → Int) (h : bc_AH) : Prop := (h c 8 = D 0 ∧ h c 9 = D 1 ∧ h c 10 = D 2 ∧ h c 11 = D 3 ∧ h c 12 = D 4 ∧ h c 13 = D 5 ∧ h c 14 = D 6) ∧ ∀ o : Nat, (o : Int) < D 0 → h (c + 1) o = D (7 + 9 * o) ∧ h (c + 2) o = D (7 + 9 * o + 1) ∧ h (c + 3) o = D (7 + 9 * o + 2) ∧ h (c + 4) o = D (7 + 9 * o + 3) ∧ h (c + 5) o = D (7 + 9 * o + 4) ∧ h (c + 6) o = D (7 + 9 * o + 5) ∧ h (c + 7) o = D (7 + 9 * o + 7) ∧ h (c + 8) o = D (7 + 9 * o + 8)
/-- the reference's row at cell c holds D -/
def pd_M (c : Nat) (D : Nat → Int) (h : bc_AH) : Prop := ∀ i : Nat, i < 223 → h c i = D i
-- masks built bit by bit
def pd_mask (p : Nat → Bool) : Nat → Int
  | 0 => 0
  | i + 1 => if p i then bc_or (pd_mask p i) (bc_shl 1 i) else pd_mask p i
theorem bc_vr_ti (x : Int32) : bc_vr x.toInt := by
  have h1 := Int32.minValue_le_toInt x
  have h2 := Int32.toInt_le x
  have e1 : Int32.minValue.toInt = -2147483648 := by decide +kernel
  have e2 : Int32.maxValue.toInt = 2147483647 := by decide +kernel
  exact ⟨by omega, by omega⟩
theorem bc_vr_and (x y : Int) : bc_vr (bc_and x y) := bc_vr_ti _
theorem bc_vr_or (x y : Int) : bc_vr (bc_or x y) := bc_vr_ti _
theorem bc_vr_xor (x y : Int) : bc_vr (bc_xor x y) := bc_vr_ti _
theorem bc_vr_shl (x y : Int) : bc_vr (bc_shl x y) := bc_vr_ti _
theorem bc_vr_shr (x y : Int) : bc_vr (bc_shr x y) := bc_vr_ti _
theorem bc_vr_ushr (x y : Int) : bc_vr (bc_ushr x y) := bc_vr_ti _
-- bits (begun with rows of kit/laws/BITS.to-paste)
/-! rows on bits, shifts and unsigned numbers, to paste: each family out of a closed proof of our own, whole with what it rests on; each by itself clean at Lean in its own claim (generation 39, form 5). Take a family whole -/
/-! ===== Int32 by its bits: bt x i ===== -/
def bt (x : Int32) (i : Nat) : Bool := x.toBitVec.getLsbD i
theorem b_ext {x y : Int32} (h : ∀ i, i < 32 → bt x i = bt y i) : x = y := Int32.toBitVec_inj.mp (BitVec.eq_of_getLsbD_eq (fun i hi => h i hi))
theorem b_or (x y : Int32) (i : Nat) : bt (x ||| y) i = (bt x i || bt y i) := by unfold bt; rw [Int32.toBitVec_or, BitVec.getLsbD_or]
theorem b_and (x y : Int32) (i : Nat) : bt (x &&& y) i = (bt x i && bt y i) := by unfold bt; rw [Int32.toBitVec_and, BitVec.getLsbD_and]
theorem b_xor (x y : Int32) (i : Nat) : bt (x ^^^ y) i = (bt x i ^^ bt y i) := by unfold bt; rw [Int32.toBitVec_xor, BitVec.getLsbD_xor]
theorem b_big {x : Int32} {i : Nat} (h : 32 ≤ i) : bt x i = false := BitVec.getLsbD_of_ge _ _ h
theorem b_255 (i : Nat) : bt 255 i = decide (i < 8) := by
  rcases Nat.lt_or_ge i 32 with h | h
  · exact (by decide +kernel : ∀ i, i < 32 → bt 255 i = decide (i < 8)) i h
  · rw [b_big h, decide_eq_false (by omega)]
theorem b_65535 (i : Nat) : bt 65535 i = decide (i < 16) := by
  rcases Nat.lt_or_ge i 32 with h | h
  · exact (by decide +kernel : ∀ i, i < 32 → bt 65535 i = decide (i < 16)) i h
  · rw [b_big h, decide_eq_false (by omega)]
theorem b_m1 : ∀ i, i < 32 → bt (-1) i = true := by decide +kernel
theorem b_0 (i : Nat) : bt 0 i = false := BitVec.getLsbD_zero
theorem s_l : ∀ n, n < 32 → ((nI n &&& 31).toBitVec.smod 32).toNat = n := by decide +kernel
theorem s_u : ∀ n, n < 32 → (((nI n).toUInt32 &&& Int32.toUInt32 31).toBitVec % 32).toNat = n := by decide +kernel
theorem b_shl (n : Nat) (hn : n < 32) (x : Int32) {i : Nat} (hi : i < 32) : bt (x <<< (nI n &&& 31)) i = (decide (n ≤ i) && bt x (i - n)) := by
  unfold bt
  rw [Int32.toBitVec_shiftLeft]
  show (x.toBitVec <<< ((nI n &&& 31).toBitVec.smod 32).toNat).getLsbD i = _
  rw [s_l n hn, BitVec.getLsbD_shiftLeft]
  rcases Nat.lt_or_ge i n with h | h
  · simp [h, Nat.not_le.mpr h]
  · simp [hi, h, Nat.not_lt.mpr h]
theorem b_ushr (n : Nat) (hn : n < 32) (x : Int32) (i : Nat) : bt ((x.toUInt32 >>> ((nI n).toUInt32 &&& Int32.toUInt32 31)).toInt32) i = bt x (n + i) := by
  show (x.toUInt32 >>> ((nI n).toUInt32 &&& Int32.toUInt32 31)).toBitVec.getLsbD i = x.toUInt32.toBitVec.getLsbD (n + i)
  rw [UInt32.toBitVec_shiftRight]
  show (x.toUInt32.toBitVec >>> (((nI n).toUInt32 &&& Int32.toUInt32 31).toBitVec % 32).toNat).getLsbD i = _
  rw [s_u n hn, BitVec.getLsbD_ushiftRight]
theorem b_sshr (n : Nat) (hn : n < 32) (x : Int32) {i : Nat} (hi : i < 32) : bt (x >>> (nI n &&& 31)) i = if n + i < 32 then bt x (n + i) else bt x 31 := by
  unfold bt
  rw [Int32.toBitVec_shiftRight]
  show (x.toBitVec.sshiftRight ((nI n &&& 31).toBitVec.smod 32).toNat).getLsbD i = _
  rw [s_l n hn, BitVec.getLsbD_sshiftRight, BitVec.msb_eq_getLsbD_last]
  simp [hi]
theorem b_shl8 (x : Int32) {i : Nat} (hi : i < 32) : bt (x <<< ((8 : Int32) &&& 31)) i = (decide (8 ≤ i) && bt x (i - 8)) := b_shl 8 (by omega) x hi
theorem b_shl16 (x : Int32) {i : Nat} (hi : i < 32) : bt (x <<< ((16 : Int32) &&& 31)) i = (decide (16 ≤ i) && bt x (i - 16)) := b_shl 16 (by omega) x hi
theorem b_shl24 (x : Int32) {i : Nat} (hi : i < 32) : bt (x <<< ((24 : Int32) &&& 31)) i = (decide (24 ≤ i) && bt x (i - 24)) := b_shl 24 (by omega) x hi
-- bits of an int
def bc_bit (x : Int) (i : Nat) : Bool := (Int32.ofInt x).toBitVec.getLsbD i
theorem bc_bit_or (x y : Int) (i : Nat) : bc_bit (bc_or x y) i = (bc_bit x i || bc_bit y i) := by
  unfold bc_bit bc_or
  rw [bc_oi]
  simp
theorem bc_bit_and (x y : Int) (i : Nat) : bc_bit (bc_and x y) i = (bc_bit x i && bc_bit y i) := by
  unfold bc_bit bc_and
  rw [bc_oi]
  simp
theorem bc_bit_xor (x y : Int) (i : Nat) : bc_bit (bc_xor x y) i = (bc_bit x i ^^ bc_bit y i) := by
  unfold bc_bit bc_xor
  rw [bc_oi]
  simp
theorem bc_bit_0 (i : Nat) : bc_bit 0 i = false := by
  unfold bc_bit
  rw [show Int32.ofInt 0 = 0 from rfl]
  simp
theorem bc_bit_m1 (i : Nat) (hi : i < 32) : bc_bit (-1) i = true := by
  have h : ∀ i, i < 32 → bc_bit (-1) i = true := by decide +kernel
  exact h i hi
theorem bc_bit_shl (o i : Nat) (ho : o < 32) (hi : i < 32) : bc_bit (bc_shl 1 o) i = decide (i = o) := by
  have h : ∀ o : Nat, o < 32 → ∀ i : Nat, i < 32 → bc_bit (bc_shl 1 (o : Int)) i = decide (i = o) := by decide +kernel
  exact h o ho i hi
theorem bc_ext {x y : Int} (hx : bc_vr x) (hy : bc_vr y) (h : ∀ i, i < 32 → bc_bit x i = bc_bit y i) : x = y := by
  apply (bc_eq hx hy).mp
  apply Int32.toBitVec_inj.mp
  apply BitVec.eq_of_getLsbD_eq
  exact h
theorem bc_bit_1 (i : Nat) (hi : i < 32) : bc_bit 1 i = decide (i = 0) := by
  have h : ∀ i : Nat, i < 32 → bc_bit 1 i = decide (i = 0) := by decide +kernel
  exact h i hi
theorem bc_and1 (y : Int) : (bc_and y 1 = 1) ↔ bc_bit y 0 = true := by
  constructor
  · intro h
    have h1 : bc_bit (bc_and y 1) 0 = true := by rw [h, bc_bit_1 0 (by omega)]; rfl
    rw [bc_bit_and] at h1
    simp at h1
    exact h1.1
  · intro h
    refine bc_ext (bc_vr_and _ _) ⟨by omega, by omega⟩ (fun i hi => ?_)
    rw [bc_bit_and, bc_bit_1 i hi]
    by_cases h0 : i = 0
    · subst h0; simp [h]
    · simp [h0]
/-- (x >>> o & 1) == 1 -/
theorem bc_isin_u (x : Int) (o : Nat) (ho : o < 32) : (bc_and (bc_ushr x o) 1 = 1) ↔ bc_bit x o = true := by
  rw [bc_and1]
  have e : bc_bit (bc_ushr x o) 0 = bc_bit x o := by
    unfold bc_bit bc_ushr
    rw [bc_oi]
    exact b_ushr o ho (Int32.ofInt x) 0
  rw [e]
/-- (x >> o & 1) == 1 -/
theorem bc_isin_s (x : Int) (o : Nat) (ho : o < 32) : (bc_and (bc_shr x o) 1 = 1) ↔ bc_bit x o = true := by
  rw [bc_and1]
  have e : bc_bit (bc_shr x o) 0 = bc_bit x o := by
    unfold bc_bit bc_shr
    rw [bc_oi]
    have := b_sshr o ho (Int32.ofInt x) (i := 0) (by omega)
    rw [if_pos (by omega)] at this
    exact this
  rw [e]
theorem pd_mask_bit (p : Nat → Bool) : ∀ (n i : Nat), n ≤ 32 → i < 32 → bc_bit (pd_mask p n) i = (decide (i < n) && p i) := by
  intro n
  induction n with
  | zero => intro i _ _; rw [pd_mask, bc_bit_0]; simp
  | succ n ih =>
    intro i hn hi
    rw [pd_mask]
    by_cases hp : p n = true
    · rw [if_pos hp, bc_bit_or, ih i (by omega) hi, bc_bit_shl n i (by omega) hi]
      by_cases hin : i = n
      · subst hin; simp [hp]
      · have : (i < n + 1) ↔ i < n := by omega
        simp [hin, this]
    · rw [if_neg hp, ih i (by omega) hi]
      by_cases hin : i = n
      · subst hin; simp [hp]
      · have : (i < n + 1) ↔ i < n := by omega
        simp [this]
theorem pd_mask_vr (p : Nat → Bool) : ∀ n, bc_vr (pd_mask p n) := by
  intro n
  induction n with
  | zero => rw [pd_mask]; exact ⟨by omega, by omega⟩
  | succ n ih =>
    rw [pd_mask]
    split
    · exact bc_vr_or _ _
    · exact ih
theorem pd_mask_congr {p q : Nat → Bool} : ∀ n, (∀ i, i < n → p i = q i) → pd_mask p n = pd_mask q n := by
  intro n
  induction n with
  | zero => intro _; rfl
  | succ n ih =>
    intro h
    rw [pd_mask, pd_mask, h n (by omega), ih (fun i hi => h i (by omega))]
