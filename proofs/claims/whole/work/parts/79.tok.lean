/-! PURE: tokens -/
def pd_bk (b : Int) : Bool := decide (b = 32 ∨ b = 10)
def pd_lt (b : Int) : Bool := decide (97 ≤ b ∧ b ≤ 122)
def pd_dg (b : Int) : Bool := decide (48 ≤ b ∧ b ≤ 57)
def pd_ld (b : Int) : Bool := pd_lt b || pd_dg b
/-- the first place from p on, but not behind b, where f doesn't hold -/
def pd_wh (f : Int → Bool) (T : Nat → Int) (b : Nat) : Nat → Nat → Nat
  | 0, p => p
  | k + 1, p => if p < b ∧ f (T p) = true then pd_wh f T b k (p + 1) else p
def pd_wp (f : Int → Bool) (T : Nat → Int) (b p : Nat) : Nat := pd_wh f T b (b - p) p
theorem pd_wp_t {f : Int → Bool} {T : Nat → Int} {b p : Nat} (h : p < b) (hf : f (T p) = true) : pd_wp f T b p = pd_wp f T b (p + 1) := by
  unfold pd_wp
  have e : b - p = (b - (p + 1)) + 1 := by omega
  rw [e, pd_wh, if_pos ⟨h, hf⟩]
theorem pd_wp_f {f : Int → Bool} {T : Nat → Int} {b p : Nat} (h : ¬ (p < b ∧ f (T p) = true)) : pd_wp f T b p = p := by
  unfold pd_wp
  cases e : b - p with
  | zero => rfl
  | succ k => rw [pd_wh, if_neg h]
theorem pd_wp_ge {f : Int → Bool} {T : Nat → Int} {b : Nat} : ∀ (k p : Nat), b - p ≤ k → p ≤ pd_wp f T b p ∧ (∀ j, p ≤ j → j < pd_wp f T b p → j < b ∧ f (T j) = true) ∧ (pd_wp f T b p < b → ¬ f (T (pd_wp f T b p)) = true) ∧ (p ≤ b → pd_wp f T b p ≤ b) := by
  intro k
  induction k with
  | zero =>
    intro p hp
    rw [pd_wp_f (by omega)]
    exact ⟨Nat.le_refl _, fun j h1 h2 => by omega, fun h => by omega, fun h => h⟩
  | succ k ih =>
    intro p hp
    by_cases c : p < b ∧ f (T p) = true
    · rw [pd_wp_t c.1 c.2]
      obtain ⟨a1, a2, a3, a4⟩ := ih (p + 1) (by omega)
      refine ⟨by omega, fun j h1 h2 => ?_, a3, fun _ => a4 (by omega)⟩
      by_cases e : j = p
      · subst e; exact c
      · exact a2 j (by omega) h2
    · rw [pd_wp_f c]
      exact ⟨Nat.le_refl _, fun j h1 h2 => by omega, fun h q => c ⟨h, q⟩, fun h => h⟩
/-- two bounds -/
theorem pd_wp_2 {f : Int → Bool} {T : Nat → Int} {b n : Nat} (hbn : b ≤ n) : ∀ (k p : Nat), b - p ≤ k → (pd_wp f T b p < b → pd_wp f T n p = pd_wp f T b p) ∧ (b ≤ pd_wp f T b p → b ≤ pd_wp f T n p) := by
  intro k
  induction k with
  | zero =>
    intro p hp
    have e : pd_wp f T b p = p := pd_wp_f (by omega)
    rw [e]
    exact ⟨fun h => by omega, fun h => by have := (pd_wp_ge (f := f) (T := T) (b := n) (n - p) p (Nat.le_refl _)).1; omega⟩
  | succ k ih =>
    intro p hp
    by_cases c : p < b ∧ f (T p) = true
    · rw [pd_wp_t c.1 c.2, pd_wp_t (b := n) (by omega) c.2]
      exact ih (p + 1) (by omega)
    · have e : pd_wp f T b p = p := pd_wp_f c
      rw [e]
      refine ⟨fun h => pd_wp_f (fun z => c ⟨h, z.2⟩), fun h => ?_⟩
      have := (pd_wp_ge (f := f) (T := T) (b := n) (n - p) p (Nat.le_refl _)).1
      omega
def pd_ct (f : Int → Bool) (T : Nat → Int) (s : Nat) : Nat → Nat
  | 0 => 0
  | k + 1 => if f (T (s + k)) then pd_ct f T s k + 1 else pd_ct f T s k
/-- the number that the digits say: none behind the third -/
def pd_nv (T : Nat → Int) (s : Nat) : Nat → Int
  | 0 => 0
  | k + 1 => if pd_lt (T (s + k)) then pd_nv T s k else if pd_ct pd_dg T s k + 1 ≤ 3 then pd_nv T s k * 10 + T (s + k) - 48 else 0
def pd_wd (T : Nat → Int) (s : Nat) : Nat → Int
  | 0 => 0
  | k + 1 => if k < 5 then 27 * pd_wd T s k + T (s + k) - 96 else pd_wd T s k
def pd_mn (T : Nat → Int) (s : Nat) : Nat → Int
  | 0 => 0
  | k + 1 => if k < 3 then 10 * pd_mn T s k + T (s + k) - 48 else pd_mn T s k
def pd_gd (T : Nat → Int) (s : Nat) : Nat → Bool
  | 0 => true
  | k + 1 => pd_gd T s k && (pd_lt (T (s + k)) == pd_lt (T s))
def pd_bnd (n : Nat) : Nat := min n 400
def pd_tq (T : Nat → Int) (n p : Nat) : Nat := pd_wp pd_bk T (pd_bnd n) p
def pd_ts (T : Nat → Int) (n p : Nat) : Nat := min (pd_tq T n p) (pd_bnd n)
def pd_tk (T : Nat → Int) (n q : Nat) : Nat := pd_wp pd_ld T n q - q
def pd_te (T : Nat → Int) (n p : Nat) : Nat := if pd_bnd n ≤ pd_tq T n p then pd_tq T n p else if T (pd_tq T n p) = 59 then pd_tq T n p + 1 else pd_wp pd_ld T n (pd_tq T n p)
def pd_nc (T : Nat → Int) (s k : Nat) : Int := if 0 < pd_ct pd_lt T s k ∧ pd_ct pd_dg T s k = 0 then 3 else if pd_ct pd_lt T s k = 0 ∧ 0 < pd_ct pd_dg T s k ∧ pd_ct pd_dg T s k ≤ 3 then 4 else 0
def pd_tc (T : Nat → Int) (n p : Nat) : Int := if pd_bnd n ≤ pd_tq T n p then 1 else if T (pd_tq T n p) = 59 then 2 else pd_nc T (pd_tq T n p) (pd_tk T n (pd_tq T n p))
def pd_tv (T : Nat → Int) (n p : Nat) : Int := pd_nv T (pd_tq T n p) (pd_tk T n (pd_tq T n p))
/-- the sort that the reference gives it -/
def pd_so (n : Nat) (c : Int) : Int := if c = 0 then 1 else if c = 1 then (if n ≤ 400 then 0 else 1) else if c = 2 then 4 else if c = 3 then 2 else 3
theorem pd_lt_iff {b : Int} : pd_lt b = true ↔ 97 ≤ b ∧ b ≤ 122 := by simp [pd_lt]
theorem pd_dg_iff {b : Int} : pd_dg b = true ↔ 48 ≤ b ∧ b ≤ 57 := by simp [pd_dg]
theorem pd_bk_iff {b : Int} : pd_bk b = true ↔ b = 32 ∨ b = 10 := by simp [pd_bk]
theorem pd_ld_iff {b : Int} : pd_ld b = true ↔ (97 ≤ b ∧ b ≤ 122) ∨ (48 ≤ b ∧ b ≤ 57) := by simp [pd_ld, pd_lt, pd_dg]
theorem pd_ct_le {f : Int → Bool} {T : Nat → Int} {s : Nat} : ∀ k, pd_ct f T s k ≤ k := by
  intro k
  induction k with
  | zero => exact Nat.le_refl _
  | succ k ih => rw [pd_ct]; split <;> omega
theorem pd_ct_sum {T : Nat → Int} {s : Nat} : ∀ k, (∀ j, j < k → pd_ld (T (s + j)) = true) → pd_ct pd_lt T s k + pd_ct pd_dg T s k = k := by
  intro k
  induction k with
  | zero => intro _; rfl
  | succ k ih =>
    intro h
    have a := ih (fun j hj => h j (by omega))
    have b := pd_ld_iff.mp (h k (by omega))
    rw [pd_ct, pd_ct]
    by_cases c : pd_lt (T (s + k)) = true
    · have c1 := pd_lt_iff.mp c
      have c2 : ¬ pd_dg (T (s + k)) = true := fun z => by have := pd_dg_iff.mp z; omega
      rw [if_pos c, if_neg c2]; omega
    · have c1 : ¬ (97 ≤ T (s + k) ∧ T (s + k) ≤ 122) := fun z => c (pd_lt_iff.mpr z)
      have c2 : pd_dg (T (s + k)) = true := pd_dg_iff.mpr (by omega)
      rw [if_neg c, if_pos c2]; omega
theorem pd_ct_0 {f : Int → Bool} {T : Nat → Int} {s : Nat} : ∀ k, pd_ct f T s k = 0 → ∀ j, j < k → ¬ f (T (s + j)) = true := by
  intro k
  induction k with
  | zero => intro _ j hj; omega
  | succ k ih =>
    intro h j hj
    rw [pd_ct] at h
    by_cases c : f (T (s + k)) = true
    · rw [if_pos c] at h; omega
    · rw [if_neg c] at h
      by_cases e : j = k
      · subst e; exact c
      · exact ih h j (by omega)
/-- 'good' of the reference: all letters or all digits -/
theorem pd_gd_iff {T : Nat → Int} {s : Nat} : ∀ k, (∀ j, j < k → pd_ld (T (s + j)) = true) → (pd_gd T s k = true ↔ (if pd_lt (T s) = true then pd_ct pd_dg T s k = 0 else pd_ct pd_lt T s k = 0)) := by
  intro k
  induction k with
  | zero => intro _; simp [pd_gd, pd_ct]
  | succ k ih =>
    intro h
    have a := ih (fun j hj => h j (by omega))
    have b := pd_ld_iff.mp (h k (by omega))
    rw [pd_gd, Bool.and_eq_true, a, pd_ct, pd_ct]
    by_cases cs : pd_lt (T s) = true
    · simp only [cs, if_true]
      by_cases c : pd_lt (T (s + k)) = true
      · have c1 := pd_lt_iff.mp c
        have c2 : ¬ pd_dg (T (s + k)) = true := fun z => by have := pd_dg_iff.mp z; omega
        simp [c, c2]
      · have c1 : ¬ (97 ≤ T (s + k) ∧ T (s + k) ≤ 122) := fun z => c (pd_lt_iff.mpr z)
        have c2 : pd_dg (T (s + k)) = true := pd_dg_iff.mpr (by omega)
        simp [c, c2]
    · simp only [cs, if_false, Bool.false_eq_true]
      by_cases c : pd_lt (T (s + k)) = true
      · simp [c, cs]
      · simp [c, cs]
/-- the number, for up to three digits -/
theorem pd_nv_mn {T : Nat → Int} {s : Nat} : ∀ k, k ≤ 3 → (∀ j, j < k → pd_dg (T (s + j)) = true) → pd_nv T s k = pd_mn T s k ∧ pd_ct pd_dg T s k = k := by
  intro k
  induction k with
  | zero => intro _ _; exact ⟨rfl, rfl⟩
  | succ k ih =>
    intro hk h
    obtain ⟨a1, a2⟩ := ih (by omega) (fun j hj => h j (by omega))
    have d := pd_dg_iff.mp (h k (by omega))
    have nl : ¬ pd_lt (T (s + k)) = true := fun z => by have := pd_lt_iff.mp z; omega
    rw [pd_nv, pd_mn, pd_ct, if_neg nl, if_pos (by omega), if_pos (by omega), if_pos (h k (by omega)), a1, a2]
    exact ⟨by omega, rfl⟩
theorem pd_nv_b {T : Nat → Int} {s : Nat} : ∀ k, k ≤ 3 → (∀ j, j < k → pd_dg (T (s + j)) = true) → 0 ≤ pd_nv T s k ∧ pd_nv T s k < 10 ^ k := by
  intro k
  induction k with
  | zero => intro _ _; simp [pd_nv]
  | succ k ih =>
    intro hk h
    have a := ih (by omega) (fun j hj => h j (by omega))
    have c := (pd_nv_mn k (by omega) (fun j hj => h j (by omega))).2
    have d := pd_dg_iff.mp (h k (by omega))
    have nl : ¬ pd_lt (T (s + k)) = true := fun z => by have := pd_lt_iff.mp z; omega
    rw [pd_nv, if_neg nl, if_pos (by omega), Int.pow_succ]
    have : k = 0 ∨ k = 1 ∨ k = 2 := by omega
    rcases this with rfl | rfl | rfl <;> (simp at a ⊢; try simp at d) <;> omega
/-- a number token -/
theorem pd_nc4 {T : Nat → Int} {s k : Nat} (h : ∀ j, j < k → pd_ld (T (s + j)) = true) (hc : pd_nc T s k = 4) : (0 < k ∧ k ≤ 3) ∧ (∀ j, j < k → pd_dg (T (s + j)) = true) ∧ pd_nv T s k = pd_mn T s k ∧ 0 ≤ pd_nv T s k ∧ pd_nv T s k ≤ 999 := by
  unfold pd_nc at hc
  have sm := pd_ct_sum k h
  split at hc
  · omega
  · split at hc
    · rename_i c
      have hk : 0 < k ∧ k ≤ 3 := by omega
      have hd : ∀ j, j < k → pd_dg (T (s + j)) = true := fun j hj => by
        have a := pd_ct_0 k c.1 j hj
        have b := pd_ld_iff.mp (h j hj)
        have a1 : ¬ (97 ≤ T (s + j) ∧ T (s + j) ≤ 122) := fun z => a (pd_lt_iff.mpr z)
        exact pd_dg_iff.mpr (by omega)
      have v := pd_nv_b k hk.2 hd
      refine ⟨hk, hd, (pd_nv_mn k hk.2 hd).1, v.1, ?_⟩
      have : k = 1 ∨ k = 2 ∨ k = 3 := by omega
      rcases this with rfl | rfl | rfl <;> simp at v <;> omega
    · omega
theorem pd_nc3 {T : Nat → Int} {s k : Nat} (h : ∀ j, j < k → pd_ld (T (s + j)) = true) (hc : pd_nc T s k = 3) : 0 < k ∧ ∀ j, j < k → 97 ≤ T (s + j) ∧ T (s + j) ≤ 122 := by
  unfold pd_nc at hc
  have sm := pd_ct_sum k h
  split at hc
  · rename_i c
    refine ⟨by omega, fun j hj => ?_⟩
    have a := pd_ct_0 k c.2 j hj
    have b := pd_ld_iff.mp (h j hj)
    have a1 : ¬ (48 ≤ T (s + j) ∧ T (s + j) ≤ 57) := fun z => a (pd_dg_iff.mpr z)
    omega
  · split at hc <;> omega
/-- the reference's sort of a name -/
theorem pd_nc_so {T : Nat → Int} {s k n : Nat} (h : ∀ j, j < k → pd_ld (T (s + j)) = true) (hk : 0 < k) : pd_so n (pd_nc T s k) = if pd_gd T s k = false ∨ (pd_lt (T s) = false ∧ 3 < k) then 1 else if pd_lt (T s) = true then 2 else 3 := by
  have sm := pd_ct_sum k h
  have g := pd_gd_iff k h
  have l0 : pd_lt (T s) = true → 0 < pd_ct pd_lt T s k := fun z => by
    refine Classical.byContradiction (fun y => ?_)
    exact pd_ct_0 (f := pd_lt) (T := T) (s := s) k (by omega) 0 hk (by simpa using z)
  have d0 : ¬ pd_lt (T s) = true → 0 < pd_ct pd_dg T s k := fun z => by
    refine Classical.byContradiction (fun y => ?_)
    have a := pd_ct_0 (f := pd_dg) (T := T) (s := s) k (by omega) 0 hk
    have b := pd_ld_iff.mp (h 0 hk)
    rw [Nat.add_zero] at a b
    have a1 : ¬ (48 ≤ T s ∧ T s ≤ 57) := fun z => a (pd_dg_iff.mpr z)
    exact z (pd_lt_iff.mpr (by omega))
  unfold pd_nc
  cases cs : pd_lt (T s) with
  | true =>
    rw [if_pos cs] at g
    have l1 := l0 cs
    cases cg : pd_gd T s k with
    | true =>
      have := g.mp cg
      rw [if_pos ⟨l1, this⟩]; simp [pd_so]
    | false =>
      have : ¬ pd_ct pd_dg T s k = 0 := fun z => by rw [g.mpr z] at cg; exact absurd cg (by decide)
      rw [if_neg (by omega), if_neg (by omega)]; simp [pd_so]
  | false =>
    have csn : ¬ pd_lt (T s) = true := by rw [cs]; decide
    rw [if_neg csn] at g
    have d1 := d0 csn
    cases cg : pd_gd T s k with
    | true =>
      have := g.mp cg
      rw [if_neg (by omega)]
      by_cases c3 : k ≤ 3
      · rw [if_pos (by omega)]; simp [pd_so]; omega
      · rw [if_neg (by omega)]; simp [pd_so]; omega
    | false =>
      have : ¬ pd_ct pd_lt T s k = 0 := fun z => by rw [g.mpr z] at cg; exact absurd cg (by decide)
      rw [if_neg (by omega), if_neg (by omega)]; simp [pd_so]
/-- the reference's word of a name of letters -/
theorem pd_wd_b {T : Nat → Int} {s : Nat} : ∀ k, (∀ j, j < k → 97 ≤ T (s + j) ∧ T (s + j) ≤ 122) → 0 ≤ pd_wd T s k ∧ pd_wd T s k < 14348907 := by
  intro k
  have key : ∀ k, k ≤ 5 → (∀ j, j < k → 97 ≤ T (s + j) ∧ T (s + j) ≤ 122) → 0 ≤ pd_wd T s k ∧ pd_wd T s k < 27 ^ k := by
    intro k
    induction k with
    | zero => intro _ _; simp [pd_wd]
    | succ k ih =>
      intro hk h
      have a := ih (by omega) (fun j hj => h j (by omega))
      have d := h k (by omega)
      rw [pd_wd, if_pos (by omega)]
      have : k = 0 ∨ k = 1 ∨ k = 2 ∨ k = 3 ∨ k = 4 := by omega
      rcases this with rfl | rfl | rfl | rfl | rfl <;> (simp at a ⊢; try simp at d) <;> omega
  induction k with
  | zero => intro _; simp [pd_wd]
  | succ k ih =>
    intro h
    by_cases c : k < 5
    · have := key (k + 1) (by omega) h
      have e : k = 0 ∨ k = 1 ∨ k = 2 ∨ k = 3 ∨ k = 4 := by omega
      rcases e with rfl | rfl | rfl | rfl | rfl <;> simp at this ⊢ <;> omega
    · rw [pd_wd, if_neg c]
      exact ih (fun j hj => h j (by omega))
theorem pd_wd_big {T : Nat → Int} {s : Nat} : ∀ k, 5 ≤ k → pd_wd T s k = pd_wd T s 5 := by
  intro k
  induction k with
  | zero => intro h; omega
  | succ k ih =>
    intro h
    by_cases c : k = 4
    · subst c; rfl
    · rw [pd_wd, if_neg (by omega)]; exact ih (by omega)
theorem pd_wd_3 {T : Nat → Int} {s k : Nat} (hk : 0 < k) (h : ∀ j, j < k → 97 ≤ T (s + j) ∧ T (s + j) ≤ 122) {a b c : Int} (ha : 97 ≤ a ∧ a ≤ 122) (hb : 97 ≤ b ∧ b ≤ 122) (hc : 97 ≤ c ∧ c ≤ 122) : pd_wd T s k = 27 * (27 * (a - 96) + b - 96) + c - 96 ↔ k = 3 ∧ T s = a ∧ T (s + 1) = b ∧ T (s + 2) = c := by
  have h0 := h 0 hk
  rw [Nat.add_zero] at h0
  by_cases c5 : 5 ≤ k
  · have h1 := h 1 (by omega)
    have h2 := h 2 (by omega)
    have h3 := h 3 (by omega)
    have h4 := h 4 (by omega)
    rw [pd_wd_big k c5]
    simp [pd_wd]
    omega
  · have e : k = 1 ∨ k = 2 ∨ k = 3 ∨ k = 4 := by omega
    rcases e with rfl | rfl | rfl | rfl
    · simp [pd_wd]; omega
    · have h1 := h 1 (by omega)
      simp [pd_wd]; omega
    · have h1 := h 1 (by omega)
      have h2 := h 2 (by omega)
      simp [pd_wd]; omega
    · have h1 := h 1 (by omega)
      have h2 := h 2 (by omega)
      have h3 := h 3 (by omega)
      simp [pd_wd]; omega
theorem pd_wd_4 {T : Nat → Int} {s k : Nat} (hk : 0 < k) (h : ∀ j, j < k → 97 ≤ T (s + j) ∧ T (s + j) ≤ 122) {a b c e : Int} (ha : 97 ≤ a ∧ a ≤ 122) (hb : 97 ≤ b ∧ b ≤ 122) (hc : 97 ≤ c ∧ c ≤ 122) (he : 97 ≤ e ∧ e ≤ 122) : pd_wd T s k = 27 * (27 * (27 * (a - 96) + b - 96) + c - 96) + e - 96 ↔ k = 4 ∧ T s = a ∧ T (s + 1) = b ∧ T (s + 2) = c ∧ T (s + 3) = e := by
  have h0 := h 0 hk
  rw [Nat.add_zero] at h0
  by_cases c5 : 5 ≤ k
  · have h1 := h 1 (by omega)
    have h2 := h 2 (by omega)
    have h3 := h 3 (by omega)
    have h4 := h 4 (by omega)
    rw [pd_wd_big k c5]
    simp [pd_wd]
    omega
  · have e : k = 1 ∨ k = 2 ∨ k = 3 ∨ k = 4 := by omega
    rcases e with rfl | rfl | rfl | rfl
    · simp [pd_wd]; omega
    · have h1 := h 1 (by omega)
      simp [pd_wd]; omega
    · have h1 := h 1 (by omega)
      have h2 := h 2 (by omega)
      simp [pd_wd]; omega
    · have h1 := h 1 (by omega)
      have h2 := h 2 (by omega)
      have h3 := h 3 (by omega)
      simp [pd_wd]; omega
