/-! PURE: a run -/
theorem pd_fs_ge {D : Nat → Int} {V : Int} {S : List Nat} {p : Nat → Bool} (hS : pd_SO D S) : ∀ (l : List Nat) (lo hi : Nat → Int), (∀ x ∈ l, p x = true → x ∈ S) → pd_J D V S lo hi → ∀ y ∈ S, lo y ≤ pd_fs D V S p l lo y ∧ pd_fs D V S p l lo y ≤ pd_sz D y := by
  intro l
  induction l with
  | nil => intro lo hi _ hJ y hy; have := hJ.1 y hy; rw [pd_fs]; omega
  | cons a r ih =>
    intro lo hi hp hJ y hy
    rw [pd_fs]
    by_cases e : p a = true
    · rw [if_pos e]
      have st := pd_J_step hS hJ (hp a List.mem_cons_self e)
      have := ih _ _ (fun x hx => hp x (List.mem_cons_of_mem _ hx)) st.2 y hy
      by_cases z : y = a
      · subst z; rw [pd_st_x] at this; omega
      · rw [pd_st_ne z] at this; exact this
    · rw [if_neg e]
      exact ih _ _ (fun x hx => hp x (List.mem_cons_of_mem _ hx)) hJ y hy
theorem pd_fill_b {D : Nat → Int} (hW : pd_W D) {x : Nat} (hx : x < 32) (hb : bc_bit (pd_cs D) x = true) : 1 ≤ pd_fill D x ∧ pd_fill D x ≤ pd_sz D x := by
  obtain ⟨cs1, cs2, cs3, -⟩ := pd_cs_spec hW
  have v0 := hW.1.1
  have hm := (pd_cl_mem hW).mpr ⟨hx, hb⟩
  have := pd_fs_ge (p := bc_bit (pd_cs D)) (pd_cl_SO hW) (pd_rk D (pd_ob D) (D 0).toNat) _ _ (fun y hy q => (pd_cl_mem hW).mpr ⟨by have := ((pd_rk_mem _).mp hy).1; omega, q⟩) cs3 x hm
  have ok := pd_wl_ok hW.1 (cs1 x hx hb)
  unfold pd_fill pd_fr2
  rw [if_pos hb]
  omega
theorem pd_fill_0 {D : Nat → Int} {x : Nat} (hb : ¬ bc_bit (pd_cs D) x = true) : pd_fill D x = 0 := by unfold pd_fill; rw [if_neg hb]
/-- the firms of a side of the chosen set -/
def pd_fo (D : Nat → Int) (s : Int) : Nat → Int
  | 0 => 0
  | i + 1 => if bc_bit (pd_cs D) i = true ∧ D (7 + 9 * i) = s then bc_or (pd_fo D s i) (bc_shl 1 (D (7 + 9 * i + 4))) else pd_fo D s i
def pd_lk (D : Nat → Int) (x : Nat) : Int := bc_and (pd_fo D (1 - D (7 + 9 * x)) (D 0).toNat) (bc_xor (bc_shl 1 (D (7 + 9 * x + 4))) (-1))
def pd_lkm (D : Nat → Int) (x : Nat) : Nat → Int
  | 0 => 0
  | i + 1 => if 0 < pd_fill D i ∧ ¬ D (7 + 9 * i) = D (7 + 9 * x) ∧ ¬ D (7 + 9 * i + 4) = D (7 + 9 * x + 4) then bc_or (pd_lkm D x i) (bc_shl 1 (D (7 + 9 * i + 4))) else pd_lkm D x i
theorem pd_bit_shl {v : Int} (h : 0 ≤ v ∧ v ≤ 5) {j : Nat} (hj : j < 32) : bc_bit (bc_shl 1 v) j = true ↔ (j : Int) = v := by
  obtain ⟨a, rfl⟩ := Int.eq_ofNat_of_zero_le h.1
  rw [bc_bit_shl a j (by omega) hj, decide_eq_true_eq]
  omega
theorem pd_fo_bit {D : Nat → Int} (hV : pd_V D) {s : Int} {j : Nat} (hj : j < 32) : ∀ n : Nat, (n : Int) ≤ D 0 → (bc_bit (pd_fo D s n) j = true ↔ ∃ i : Nat, i < n ∧ bc_bit (pd_cs D) i = true ∧ D (7 + 9 * i) = s ∧ D (7 + 9 * i + 4) = (j : Int)) := by
  intro n
  induction n with
  | zero =>
    intro _
    rw [pd_fo, bc_bit_0]
    constructor
    · intro h; exact absurd h (by decide)
    · rintro ⟨i, hi, -⟩; omega
  | succ n ih =>
    intro hn
    have ihn := ih (by omega)
    have hf := (hV.2.2 n (by omega)).2.2.2.2.1
    rw [pd_fo]
    by_cases c : bc_bit (pd_cs D) n = true ∧ D (7 + 9 * n) = s
    · rw [if_pos c, bc_bit_or, Bool.or_eq_true, ihn, pd_bit_shl hf hj]
      constructor
      · rintro (⟨i, i1, i2⟩ | h)
        · exact ⟨i, by omega, i2⟩
        · exact ⟨n, by omega, c.1, c.2, h.symm⟩
      · rintro ⟨i, i1, i2, i3, i4⟩
        by_cases e : i = n
        · subst e; exact Or.inr i4.symm
        · exact Or.inl ⟨i, by omega, i2, i3, i4⟩
    · rw [if_neg c, ihn]
      constructor
      · rintro ⟨i, i1, i2⟩; exact ⟨i, by omega, i2⟩
      · rintro ⟨i, i1, i2, i3, i4⟩
        by_cases e : i = n
        · subst e; exact absurd ⟨i2, i3⟩ c
        · exact ⟨i, by omega, i2, i3, i4⟩
theorem pd_lkm_bit {D : Nat → Int} (hV : pd_V D) {x j : Nat} (hj : j < 32) : ∀ n : Nat, (n : Int) ≤ D 0 → (bc_bit (pd_lkm D x n) j = true ↔ ∃ i : Nat, i < n ∧ 0 < pd_fill D i ∧ ¬ D (7 + 9 * i) = D (7 + 9 * x) ∧ ¬ D (7 + 9 * i + 4) = D (7 + 9 * x + 4) ∧ D (7 + 9 * i + 4) = (j : Int)) := by
  intro n
  induction n with
  | zero =>
    intro _
    rw [pd_lkm, bc_bit_0]
    constructor
    · intro h; exact absurd h (by decide)
    · rintro ⟨i, hi, -⟩; omega
  | succ n ih =>
    intro hn
    have ihn := ih (by omega)
    have hf := (hV.2.2 n (by omega)).2.2.2.2.1
    rw [pd_lkm]
    by_cases c : 0 < pd_fill D n ∧ ¬ D (7 + 9 * n) = D (7 + 9 * x) ∧ ¬ D (7 + 9 * n + 4) = D (7 + 9 * x + 4)
    · rw [if_pos c, bc_bit_or, Bool.or_eq_true, ihn, pd_bit_shl hf hj]
      constructor
      · rintro (⟨i, i1, i2⟩ | h)
        · exact ⟨i, by omega, i2⟩
        · exact ⟨n, by omega, c.1, c.2.1, c.2.2, h.symm⟩
      · rintro ⟨i, i1, i2, i3, i4, i5⟩
        by_cases e : i = n
        · subst e; exact Or.inr i5.symm
        · exact Or.inl ⟨i, by omega, i2, i3, i4, i5⟩
    · rw [if_neg c, ihn]
      constructor
      · rintro ⟨i, i1, i2⟩; exact ⟨i, by omega, i2⟩
      · rintro ⟨i, i1, i2, i3, i4, i5⟩
        by_cases e : i = n
        · subst e; exact absurd ⟨i2, i3, i4⟩ c
        · exact ⟨i, by omega, i2, i3, i4, i5⟩
theorem pd_lkm_vr {D : Nat → Int} {x : Nat} : ∀ n, bc_vr (pd_lkm D x n) := by
  intro n
  induction n with
  | zero => rw [pd_lkm]; unfold bc_vr; omega
  | succ n ih =>
    rw [pd_lkm]
    split
    · exact bc_vr_or _ _
    · exact ih
theorem pd_lkm_eq {D : Nat → Int} (hW : pd_W D) {x : Nat} (hx : (x : Int) < D 0) : pd_lkm D x (D 0).toNat = pd_lk D x := by
  have hV := hW.1
  have v0 := hV.1
  have sx := (hV.2.2 x hx).1
  have fx := (hV.2.2 x hx).2.2.2.2.1
  refine bc_ext (pd_lkm_vr _) (bc_vr_and _ _) (fun j hj => ?_)
  have a := pd_lkm_bit hV (x := x) hj (D 0).toNat (by omega)
  have b := pd_fo_bit hV (s := 1 - D (7 + 9 * x)) hj (D 0).toNat (by omega)
  unfold pd_lk
  rw [bc_bit_and, bc_bit_xor, bc_bit_m1 j hj]
  have c := pd_bit_shl fx hj
  have key : (bc_bit (pd_lkm D x (D 0).toNat) j = true) ↔ (bc_bit (pd_fo D (1 - D (7 + 9 * x)) (D 0).toNat) j = true ∧ ¬ bc_bit (bc_shl 1 (D (7 + 9 * x + 4))) j = true) := by
    rw [a, b, c]
    constructor
    · rintro ⟨i, i1, i2, i3, i4, i5⟩
      have si := (hV.2.2 i (by omega)).1
      have hb : bc_bit (pd_cs D) i = true := by
        refine Classical.byContradiction (fun q => ?_)
        rw [pd_fill_0 q] at i2
        omega
      have e1 : D (7 + 9 * i) = 1 - D (7 + 9 * x) := by clear a b c; omega
      have e2 : ¬ (j : Int) = D (7 + 9 * x + 4) := by clear a b c; omega
      exact ⟨⟨i, i1, hb, e1, i5⟩, e2⟩
    · rintro ⟨⟨i, i1, i2, i3, i4⟩, h2⟩
      have hfi := (pd_fill_b hW (x := i) (by clear a b c; omega) i2).1
      clear a b c
      exact ⟨i, i1, by omega, by omega, by omega, i4⟩
  cases h1 : bc_bit (pd_lkm D x (D 0).toNat) j with
  | true =>
    obtain ⟨k1, k2⟩ := key.mp h1
    rw [k1, Bool.eq_false_iff.mpr k2]; rfl
  | false =>
    cases h2 : bc_bit (pd_fo D (1 - D (7 + 9 * x)) (D 0).toNat) j with
    | false => rfl
    | true =>
      cases h3 : bc_bit (bc_shl 1 (D (7 + 9 * x + 4))) j with
      | true => rfl
      | false =>
        have := key.mpr ⟨h2, by rw [h3]; decide⟩
        rw [h1] at this
        exact absurd this (by decide)
/-- an order's field after a run in which it is chosen -/
def pd_ro (D : Nat → Int) (x w : Nat) : Int := if w = 1 then pd_sz D x - pd_fill D x else if w = 2 then min (D (7 + 9 * x + 2)) (pd_sz D x - pd_fill D x) else if w = 5 then (if pd_sz D x - pd_fill D x = 0 then 2 else 0) else if w = 7 then D (7 + 9 * x + 7) + pd_fill D x else if w = 8 then bc_or (D (7 + 9 * x + 8)) (pd_lk D x) else D (7 + 9 * x + w)
/-- leaks of the first a orders, all of the first b are done -/
def pd_rm (D : Nat → Int) (a b : Nat) : Nat → Int := fun i => if 7 ≤ i ∧ bc_bit (pd_cs D) ((i - 7) / 9) = true ∧ (((i - 7) % 9 = 8 ∧ (i - 7) / 9 < a) ∨ (i - 7) / 9 < b) then pd_ro D ((i - 7) / 9) ((i - 7) % 9) else D i
theorem pd_rm_hd {D : Nat → Int} {a b i : Nat} (h : i < 7) : pd_rm D a b i = D i := by
  unfold pd_rm; rw [if_neg (by omega)]
theorem pd_rm_at {D : Nat → Int} {a b x w : Nat} (hw : w < 9) : pd_rm D a b (7 + 9 * x + w) = if bc_bit (pd_cs D) x = true ∧ ((w = 8 ∧ x < a) ∨ x < b) then pd_ro D x w else D (7 + 9 * x + w) := by
  have e1 : (7 + 9 * x + w - 7) / 9 = x := by omega
  have e2 : (7 + 9 * x + w - 7) % 9 = w := by omega
  unfold pd_rm
  rw [e1, e2]
  by_cases c : bc_bit (pd_cs D) x = true ∧ ((w = 8 ∧ x < a) ∨ x < b)
  · rw [if_pos c, if_pos ⟨by omega, c⟩]
  · rw [if_neg c, if_neg (fun z => c z.2)]
def pd_run (D : Nat → Int) : Nat → Int := fun i => if i = 2 then D 2 + 1 else if i = 3 then D 3 + pd_cv D else if i = 4 then pd_cv D else if i = 5 then D 1 else if i = 6 then pd_cs D else pd_rm D (D 0).toNat (D 0).toNat i
theorem pd_run_hi {D : Nat → Int} {i : Nat} (h : 7 ≤ i) : pd_run D i = pd_rm D (D 0).toNat (D 0).toNat i := by
  unfold pd_run
  rw [if_neg (by omega), if_neg (by omega), if_neg (by omega), if_neg (by omega), if_neg (by omega)]
theorem pd_run_01 {D : Nat → Int} : pd_run D 0 = D 0 ∧ pd_run D 1 = D 1 := by
  unfold pd_run
  exact ⟨by rw [if_neg (by omega), if_neg (by omega), if_neg (by omega), if_neg (by omega), if_neg (by omega), pd_rm_hd (by omega)], by rw [if_neg (by omega), if_neg (by omega), if_neg (by omega), if_neg (by omega), if_neg (by omega), pd_rm_hd (by omega)]⟩
theorem pd_W_run {D : Nat → Int} (hW : pd_W D) : pd_W (pd_run D) := by
  have hW0 := hW
  have cs1 := (pd_cs_spec hW).1
  rw [pd_W_iff] at hW ⊢
  obtain ⟨⟨v0, v1, vo⟩, hc⟩ := hW
  obtain ⟨r0, r1⟩ := pd_run_01 (D := D)
  have fld : ∀ x w : Nat, w < 9 → (x : Int) < D 0 → pd_run D (7 + 9 * x + w) = if bc_bit (pd_cs D) x = true then pd_ro D x w else D (7 + 9 * x + w) := fun x w hw hx => by
    rw [pd_run_hi (by omega), pd_rm_at hw]
    by_cases c : bc_bit (pd_cs D) x = true
    · rw [if_pos c, if_pos ⟨c, Or.inr (by omega)⟩]
    · rw [if_neg c, if_neg (fun z => c z.1)]
  refine ⟨⟨by rw [r0]; exact v0, by rw [r1]; exact v1, fun x hx => ?_⟩, ?_⟩
  · rw [r0] at hx
    have q := vo x hx
    have f0 := fld x 0 (by omega) hx
    rw [Nat.add_zero] at f0
    unfold pd_O at q ⊢
    rw [f0, fld x 1 (by omega) hx, fld x 2 (by omega) hx, fld x 3 (by omega) hx, fld x 4 (by omega) hx, fld x 5 (by omega) hx]
    by_cases c : bc_bit (pd_cs D) x = true
    · simp only [if_pos c]
      have fb := pd_fill_b hW0 (by omega) c
      have es : pd_sz D x = D (7 + 9 * x + 1) := rfl
      have e0 : pd_ro D x 0 = D (7 + 9 * x) := by unfold pd_ro; simp
      have e1 : pd_ro D x 1 = pd_sz D x - pd_fill D x := by unfold pd_ro; simp
      have e2 : pd_ro D x 2 = min (D (7 + 9 * x + 2)) (pd_sz D x - pd_fill D x) := by unfold pd_ro; simp
      have e3 : pd_ro D x 3 = D (7 + 9 * x + 3) := by unfold pd_ro; simp
      have e4 : pd_ro D x 4 = D (7 + 9 * x + 4) := by unfold pd_ro; simp
      have e5 : pd_ro D x 5 = if pd_sz D x - pd_fill D x = 0 then 2 else 0 := by unfold pd_ro; simp
      have ok := pd_wl_ok hW0.1 (cs1 x (by omega) c)
      have el : pd_l0 D x = D (7 + 9 * x + 2) := rfl
      rw [e0, e1, e2, e3, e4, e5]
      refine ⟨q.1, by omega, by omega, q.2.2.2.1, q.2.2.2.2.1, by split <;> omega, fun z => ?_⟩
      have : ¬ pd_sz D x - pd_fill D x = 0 := fun y => by rw [if_pos y] at z; omega
      omega
    · simp only [if_neg c]
      exact q
  · rw [r0]
    refine Nat.le_trans (pd_cnt_mono _ (fun i hi q => ?_)) hc
    obtain ⟨q1, q2⟩ := pd_ob_iff.mp q
    rw [r0] at q1
    refine pd_ob_iff.mpr ⟨q1, ?_⟩
    rw [fld i 5 (by omega) q1] at q2
    by_cases c : bc_bit (pd_cs D) i = true
    · have ok := pd_wl_ok hW0.1 (cs1 i (by omega) c)
      exact (pd_ob_iff.mp (pd_wb_iff.mp ok.2.1).1).2
    · rw [if_neg c] at q2; exact q2
