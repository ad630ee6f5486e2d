/-! PURE: why -/
def pd_ac (D : Nat → Int) (o y : Nat) : Bool := pd_wb D (D 1) y && (decide (¬ D (7 + 9 * y) = D (7 + 9 * o)) && decide (¬ D (7 + 9 * y + 4) = D (7 + 9 * o + 4)))
def pd_acs (D : Nat → Int) (o : Nat) : Nat → Int
  | 0 => 0
  | i + 1 => if pd_ac D o i then pd_acs D o i + pd_sz D i else pd_acs D o i
theorem pd_acs_b {D : Nat → Int} (hV : pd_V D) {o : Nat} : ∀ i : Nat, (i : Int) ≤ D 0 → 0 ≤ pd_acs D o i ∧ pd_acs D o i ≤ 999 * i := by
  intro i
  induction i with
  | zero => intro _; simp [pd_acs]
  | succ i ih =>
    intro hi
    have := ih (by omega)
    have r := (hV.2.2 i (by omega)).2.1
    have e : pd_sz D i = D (7 + 9 * i + 1) := rfl
    rw [pd_acs]
    split <;> omega
theorem pd_ss_app (D g : Nat → Int) (s : Int) : ∀ a b : List Nat, pd_ss D g s (a ++ b) = pd_ss D g s a + pd_ss D g s b := by
  intro a b
  induction a with
  | nil => simp [pd_ss]
  | cons x r ih => rw [List.cons_append, pd_ss, ih, pd_ss]; omega
theorem pd_acs_eq {D : Nat → Int} (hV : pd_V D) {o f : Nat} (ho : (o : Int) < D 0) (hf : D (7 + 9 * o + 4) = (f : Int)) : ∀ i : Nat, (i : Int) ≤ D 0 → pd_acs D o i = pd_ss D (pd_sz D) (1 - D (7 + 9 * o)) (pd_bl (pd_wb D (D 1)) i) - pd_sf D (pd_sz D) (1 - D (7 + 9 * o)) f (pd_bl (pd_wb D (D 1)) i) := by
  have so := (hV.2.2 o ho).1
  intro i
  induction i with
  | zero => intro _; rfl
  | succ i ih =>
    intro hi
    have := ih (by omega)
    have si := (hV.2.2 i (by omega)).1
    rw [pd_acs, pd_bl, pd_ac]
    cases hw : pd_wb D (D 1) i with
    | false => simp; exact this
    | true =>
      simp only [Bool.true_and, if_true]
      rw [pd_ss_app, pd_sf_app]
      simp only [pd_ss, pd_sf]
      rw [this, hf]
      by_cases q1 : D (7 + 9 * i) = D (7 + 9 * o)
      · have q2 : ¬ D (7 + 9 * i) = 1 - D (7 + 9 * o) := by omega
        simp [q1]
        rw [if_neg (by omega)]
        rw [if_neg (fun z => by omega)]
        omega
      · have q2 : D (7 + 9 * i) = 1 - D (7 + 9 * o) := by omega
        by_cases q3 : D (7 + 9 * i + 4) = (f : Int)
        · simp [q3, q2]; omega
        · simp [q3, q1, q2]; omega
theorem pd_sf_mem {D g : Nat → Int} {S : List Nat} {o f : Nat} (hm : o ∈ S) (hg : ∀ x ∈ S, 0 ≤ g x) (hf : D (7 + 9 * o + 4) = (f : Int)) : g o ≤ pd_sf D g (D (7 + 9 * o)) f S := by
  have h := pd_sf_sub (D := D) (g := g) (s := D (7 + 9 * o)) (f := f) (a := [o]) (b := S) (List.singleton_sublist.mpr hm) hg
  simp [pd_sf, hf] at h
  exact h
/-- a set that can trade and holds o: o's least is there on the other side, and the volume is no less -/
theorem pd_VM_o {D lo hi : Nat → Int} {S : List Nat} {o : Nat} (hO : pd_O D o) (hm : o ∈ S) (hg : ∀ x ∈ S, 0 ≤ lo x) (h : 0 ≤ pd_VM D lo hi S S) : lo o ≤ pd_VM D lo hi S S ∧ lo o ≤ pd_t6 (fun f => pd_sf D hi (1 - D (7 + 9 * o)) f S) - pd_sf D hi (1 - D (7 + 9 * o)) (D (7 + 9 * o + 4)).toNat S := by
  obtain ⟨hs, -, -, -, hfm, -⟩ := hO
  have hf : D (7 + 9 * o + 4) = ((D (7 + 9 * o + 4)).toNat : Int) := by omega
  have hlt : (D (7 + 9 * o + 4)).toNat < 6 := by omega
  have k := pd_sf_mem (D := D) hm hg hf
  unfold pd_VM pd_vol at h ⊢
  split at h
  · rename_i hc
    rw [if_pos hc]
    obtain ⟨c1, c2, c3⟩ := pd_can_iff.mp hc
    have c1f := c1 _ hlt
    have n0 := pd_t6_one (g := fun f => pd_sf D lo 0 f S) (fun f _ => pd_sf_nn S hg) hlt
    have n1 := pd_t6_one (g := fun f => pd_sf D lo 1 f S) (fun f _ => pd_sf_nn S hg) hlt
    rcases hs with e | e
    · rw [e] at k ⊢
      exact ⟨by omega, by have := c1f.1; show lo o ≤ pd_t6 (fun f => pd_sf D hi 1 f S) - pd_sf D hi 1 _ S; omega⟩
    · rw [e] at k ⊢
      exact ⟨by omega, by have := c1f.2; show lo o ≤ pd_t6 (fun f => pd_sf D hi 0 f S) - pd_sf D hi 0 _ S; omega⟩
  · omega
theorem pd_across {D : Nat → Int} (hV : pd_V D) {S : List Nat} {o : Nat} (ho : (o : Int) < D 0) (hS : S.Sublist (pd_wl D (D 1) (-1))) : pd_t6 (fun f => pd_sf D (pd_sz D) (1 - D (7 + 9 * o)) f S) - pd_sf D (pd_sz D) (1 - D (7 + 9 * o)) (D (7 + 9 * o + 4)).toNat S ≤ pd_acs D o (D 0).toNat := by
  have v0 := hV.1
  obtain ⟨hs, -, -, -, hfm, -⟩ := hV.2.2 o ho
  have hf : D (7 + 9 * o + 4) = ((D (7 + 9 * o + 4)).toNat : Int) := by omega
  have hlt : (D (7 + 9 * o + 4)).toNat < 6 := by omega
  have hnd : (pd_wl D (D 1) (-1)).Nodup := (List.filter_sublist).nodup (pd_rk_nodup _)
  have hsm : ∀ x, x ∈ pd_wl D (D 1) (-1) ↔ x ∈ pd_bl (pd_wb D (D 1)) (D 0).toNat := fun x => by
    rw [pd_wl_rk, pd_rk_mem, pd_bl_mem]
    have : ¬ (x : Int) = -1 := by omega
    simp [this]
  have e1 : ∀ f, pd_sf D (pd_sz D) (1 - D (7 + 9 * o)) f (pd_wl D (D 1) (-1)) = pd_sf D (pd_sz D) (1 - D (7 + 9 * o)) f (pd_bl (pd_wb D (D 1)) (D 0).toNat) := fun f => pd_sf_same hnd (pd_bl_nodup _) hsm
  rw [pd_acs_eq hV ho hf _ (by omega), ← pd_ss_eq _ _ _ (fun x hx => (hV.2.2 x (by have := ((pd_bl_mem _).mp hx).1; omega)).2.2.2.2.1)]
  have e2 : (fun f => pd_sf D (pd_sz D) (1 - D (7 + 9 * o)) f (pd_wl D (D 1) (-1))) = fun f => pd_sf D (pd_sz D) (1 - D (7 + 9 * o)) f (pd_bl (pd_wb D (D 1)) (D 0).toNat) := funext e1
  rw [← e2, ← e1]
  exact pd_t6_mono1 (g := fun f => pd_sf D (pd_sz D) (1 - D (7 + 9 * o)) f (pd_wl D (D 1) (-1))) (g' := fun f => pd_sf D (pd_sz D) (1 - D (7 + 9 * o)) f S) (fun f _ => pd_sf_sub hS (fun x hx => by have := pd_wl_ok hV hx; omega)) hlt
theorem pd_subs_must {must : Nat → Bool} {x : Nat} : ∀ (R S : List Nat), S ∈ pd_subs must R → x ∈ R → must x = true → x ∈ S := by
  intro R
  induction R with
  | nil => intro S _ hx; simp at hx
  | cons a R ih =>
    intro S hS hx hm
    rw [pd_subs] at hS
    rcases List.mem_append.mp hS with q | q
    · obtain ⟨S', h1, rfl⟩ := List.mem_map.mp q
      rcases List.mem_cons.mp hx with e | e
      · rw [e]; exact List.mem_cons_self
      · exact List.mem_cons_of_mem _ (ih S' h1 e hm)
    · by_cases ha : must a = true
      · rw [if_pos ha] at q; simp at q
      · rw [if_neg ha] at q
        rcases List.mem_cons.mp hx with e | e
        · rw [e] at hm; exact absurd hm ha
        · exact ih S q e hm
/-- what is in the chosen set is willing and has its least across -/
theorem pd_chosen_in {D : Nat → Int} (hV : pd_V D) {o : Nat} (ho : (o : Int) < D 0) (h : bc_bit (pd_pk D (pd_l0 D) (fun _ => false) (D 1) (-1)).2 o = true) : pd_wb D (D 1) o = true ∧ 1 ≤ pd_l0 D o ∧ pd_l0 D o ≤ pd_acs D o (D 0).toNat := by
  have v0 := hV.1
  have s1 := pd_scan_spec (fun S => pd_VM D (pd_l0 D) (pd_sz D) S S) pd_ml (pd_subs (fun _ => false) (pd_wl D (D 1) (-1))) (0, 0)
  have h' : bc_bit (pd_scan (fun S => pd_VM D (pd_l0 D) (pd_sz D) S S) pd_ml (pd_subs (fun _ => false) (pd_wl D (D 1) (-1))) (0, 0)).2 o = true := h
  rcases s1.2.2 with e | ⟨S, hS, e, hpos⟩
  · rw [e, bc_bit_0] at h'; exact absurd h' (by decide)
  · rw [e] at h'
    have hsb := pd_subs_sub _ _ hS
    have hm32 : ∀ x ∈ S, x < 32 := fun x hx => by have := (pd_wl_ok hV (hsb.subset hx)).1; omega
    rw [pd_ml_bit hm32 (by omega)] at h'
    have hm : o ∈ S := by simpa using h'
    have ok := pd_wl_ok hV (hsb.subset hm)
    have g := pd_VM_o (lo := pd_l0 D) (hi := pd_sz D) (hV.2.2 o ho) hm (fun x hx => by have := pd_wl_ok hV (hsb.subset hx); omega) (by simp only at hpos; omega)
    have a := pd_across hV ho hsb
    exact ⟨ok.2.1, ok.2.2.2.1, by omega⟩
/-- the next smaller set within a set -/
theorem pd_prev : ∀ (k all set s : Nat), all < 2 ^ k → (∀ i, set.testBit i = true → all.testBit i = true) → (∀ i, s.testBit i = true → all.testBit i = true) → s < set → s ≤ (set - 1) &&& all := by
  intro k
  induction k with
  | zero =>
    intro all set s ha h1 h2 hlt
    have e : all = 0 := by simp at ha; exact ha
    subst e
    have : set = 0 := Nat.eq_of_testBit_eq (fun i => by
      rw [Nat.zero_testBit]
      cases h : set.testBit i with
      | false => rfl
      | true => have := h1 i h; simp at this)
    omega
  | succ k ih =>
    intro all set s ha h1 h2 hlt
    have t0 : ∀ x : Nat, x.testBit 0 = true ↔ x % 2 = 1 := fun x => by simp [Nat.testBit_zero]
    have z2 : ((set - 1) &&& all) / 2 = ((set - 1) / 2) &&& (all / 2) := Nat.eq_of_testBit_eq (fun i => by
      rw [Nat.testBit_and, ← Nat.testBit_succ, ← Nat.testBit_succ, ← Nat.testBit_succ, Nat.testBit_and])
    have z0 : ((set - 1) &&& all) % 2 = 1 ↔ (set - 1) % 2 = 1 ∧ all % 2 = 1 := by
      rw [← t0, ← t0, ← t0, Nat.testBit_and, Bool.and_eq_true]
    have ha' : all / 2 < 2 ^ k := by rw [Nat.pow_succ] at ha; omega
    have h1' : ∀ i, (set / 2).testBit i = true → (all / 2).testBit i = true := fun i q => by
      rw [← Nat.testBit_succ] at q ⊢; exact h1 _ q
    have h2' : ∀ i, (s / 2).testBit i = true → (all / 2).testBit i = true := fun i q => by
      rw [← Nat.testBit_succ] at q ⊢; exact h2 _ q
    by_cases c : set % 2 = 1
    · have e1 : (set - 1) / 2 = set / 2 := by omega
      have e2 : set / 2 &&& all / 2 = set / 2 := Nat.eq_of_testBit_eq (fun i => by
        rw [Nat.testBit_and]
        cases q : (set / 2).testBit i with
        | false => rfl
        | true => rw [h1' i q]; rfl)
      rw [e1, e2] at z2
      omega
    · have e1 : (set - 1) / 2 = set / 2 - 1 := by omega
      have := ih (all / 2) (set / 2) (s / 2) ha' h1' h2' (by omega)
      rw [e1] at z2
      rw [← z2] at this
      by_cases q : s % 2 = 1
      · have := (t0 all).mp (h2 0 ((t0 s).mpr q))
        have := z0.mpr ⟨by omega, this⟩
        omega
      · omega
theorem bc_and_nat {x y : Nat} (hx : x < 2 ^ 31) (hy : y < 2 ^ 31) : bc_and (x : Int) (y : Int) = ((x &&& y : Nat) : Int) := by
  have hle : x &&& y ≤ x := Nat.and_le_left
  refine bc_ext (bc_vr_and _ _) ⟨by omega, by omega⟩ (fun i hi => ?_)
  rw [bc_bit_and, bc_bit_nat _ _ hx hi, bc_bit_nat _ _ hy hi, bc_bit_nat _ _ (by omega) hi, Nat.testBit_and]
/-- a number whose bits are all among those of p below n -/
theorem pd_subm {x : Int} (hx : bc_vr x) {n : Nat} (hn : n ≤ 24) {p : Nat → Bool} (h : ∀ i, i < 32 → bc_bit x i = true → i < n ∧ p i = true) : ∃ c : Nat, x = (c : Int) ∧ c < 2 ^ n ∧ (∀ i, c.testBit i = true → i < n ∧ p i = true) ∧ ∀ i, i < 32 → bc_bit x i = c.testBit i := by
  have q : bc_and x (bc_xor (pd_mask p n) (-1)) = 0 := bc_ext (bc_vr_and _ _) (by unfold bc_vr; omega) (fun i hi => by
    rw [bc_bit_and, bc_bit_xor, bc_bit_0, bc_bit_m1 i hi, pd_mask_bit p n i (by omega) hi]
    cases hb : bc_bit x i with
    | false => rfl
    | true => obtain ⟨a, b⟩ := h i hi hb; rw [b, decide_eq_true a]; rfl)
  obtain ⟨g0, g1, -⟩ := (pd_in_iff hx hn (p := p)).mp q
  obtain ⟨c, rfl⟩ := Int.eq_ofNat_of_zero_le g0
  have hc : c < 2 ^ n := by exact_mod_cast g1
  have h31 : c < 2 ^ 31 := by have := hx.2; omega
  refine ⟨c, rfl, hc, fun i hi => ?_, fun i hi => bc_bit_nat c i h31 hi⟩
  have h32 : i < 32 := by
    refine Classical.byContradiction (fun z => ?_)
    rw [Nat.testBit_lt_two_pow (Nat.lt_of_lt_of_le h31 (Nat.pow_le_pow_right (by omega) (by omega)))] at hi
    exact absurd hi (by decide)
  exact h i h32 (by rw [bc_bit_nat c i h31 h32]; exact hi)
/-- o is in a set of willing orders that can trade -/
def pd_may (D : Nat → Int) (o : Nat) : Prop := ∃ c : Nat, (∀ i, c.testBit i = true → i < (D 0).toNat ∧ pd_wb D (D 1) i = true) ∧ c.testBit o = true ∧ pd_vb D (pd_l0 D) (pd_sz D) (pd_bl (bc_bit (c : Int)) (D 0).toNat) = true
theorem pd_lt24 {c n : Nat} (hn : n ≤ 24) {p : Nat → Bool} (h : ∀ i, c.testBit i = true → i < n ∧ p i = true) : c < 2 ^ 24 := by
  refine Nat.lt_pow_two_of_testBit c (fun i hi => ?_)
  cases q : c.testBit i with
  | false => rfl
  | true => have := (h i q).1; omega
theorem pd_may_iff {D : Nat → Int} (hW : pd_W D) {o : Nat} (ho : (o : Int) < D 0) (hwb : pd_wb D (D 1) o = true) : pd_may D o ↔ ¬ (pd_pk D (pd_l0 D) (bc_bit (bc_shl 1 o)) (D 1) (-1)).1 = 0 := by
  have hV := hW.1
  have v0 := hV.1
  have hnd : (pd_wl D (D 1) (-1)).Nodup := (List.filter_sublist).nodup (pd_rk_nodup _)
  have hsm : ∀ x, x ∈ pd_wl D (D 1) (-1) ↔ x < (D 0).toNat ∧ pd_wb D (D 1) x = true := fun x => by
    rw [pd_wl_rk, pd_rk_mem]
    have : ¬ (x : Int) = -1 := by omega
    simp [this]
  have s1 := pd_scan_spec (fun S => pd_VM D (pd_l0 D) (pd_sz D) S S) pd_ml (pd_subs (bc_bit (bc_shl 1 o)) (pd_wl D (D 1) (-1))) (0, 0)
  have hmust : ∀ x, x < 32 → (bc_bit (bc_shl 1 o) x = true ↔ x = o) := fun x hx => by
    rw [bc_bit_shl o x (by omega) hx]; simp
  have how : o ∈ pd_wl D (D 1) (-1) := (hsm o).mpr ⟨by omega, hwb⟩
  show _ ↔ ¬ (pd_scan (fun S => pd_VM D (pd_l0 D) (pd_sz D) S S) pd_ml (pd_subs (bc_bit (bc_shl 1 o)) (pd_wl D (D 1) (-1))) (0, 0)).1 = 0
  constructor
  · rintro ⟨c, h1, h2, h3⟩
    have h24 := pd_lt24 (n := (D 0).toNat) (by omega) h1
    have hbl : ∀ x, x ∈ pd_bl (bc_bit (c : Int)) (D 0).toNat ↔ x ∈ (pd_wl D (D 1) (-1)).filter (fun x => c.testBit x) := fun x => by
      rw [pd_bl_mem, List.mem_filter, hsm]
      constructor
      · intro q
        have q2 := q.2
        rw [bc_bit_nat c x (by omega) (by omega)] at q2
        exact ⟨h1 x q2, q2⟩
      · intro q
        exact ⟨q.1.1, by rw [bc_bit_nat c x (by omega) (by have := q.1.1; omega)]; exact q.2⟩
    have hsb : ((pd_wl D (D 1) (-1)).filter (fun x => c.testBit x)).Sublist (pd_wl D (D 1) (-1)) := List.filter_sublist
    have hnS := hsb.nodup hnd
    rw [pd_vb_can (fun x hx => by have := pd_wl_ok hV (hsb.subset ((hbl x).mp hx)); omega), pd_VM_same (pd_bl_nodup _) hnS hbl] at h3
    have hoS : o ∈ (pd_wl D (D 1) (-1)).filter (fun x => c.testBit x) := List.mem_filter.mpr ⟨how, h2⟩
    have g := (pd_VM_o (lo := pd_l0 D) (hi := pd_sz D) (hV.2.2 o ho) hoS (fun x hx => by have := pd_wl_ok hV (hsb.subset hx); omega) h3).1
    have ok := pd_wl_ok hV how
    have := s1.2.1 _ (pd_subs_of _ _ hsb (fun x hx q => by
      have hx0 := ((hsm x).mp hx).1
      rw [(hmust x (by omega)).mp q]; exact hoS) hnd)
    omega
  · intro hne
    rcases s1.2.2 with e | ⟨S, hS, e, hpos⟩
    · rw [e] at hne; exact absurd rfl hne
    · have hsb := pd_subs_sub _ _ hS
      have hoS : o ∈ S := pd_subs_must _ _ hS how ((hmust o (by omega)).mpr rfl)
      have hm32 : ∀ x ∈ S, x < 32 := fun x hx => by have := (pd_wl_ok hV (hsb.subset hx)).1; omega
      obtain ⟨c, c1, c2, c3, c4⟩ := pd_subm (x := pd_ml S) (pd_mlk_vr S 0 (by unfold bc_vr; omega)) (n := (D 0).toNat) (by omega) (p := pd_wb D (D 1)) (fun i hi q => by
        rw [pd_ml_bit hm32 hi] at q
        exact (hsm i).mp (hsb.subset (by simpa using q)))
      refine ⟨c, c3, ?_, ?_⟩
      · rw [← c4 o (by omega), pd_ml_bit hm32 (by omega)]; simpa using hoS
      · have hbl : ∀ x, x ∈ pd_bl (bc_bit (c : Int)) (D 0).toNat ↔ x ∈ S := fun x => by
          rw [pd_bl_mem, ← c1]
          constructor
          · intro q
            have q2 := q.2
            rw [pd_ml_bit hm32 (by omega)] at q2
            simpa using q2
          · intro q
            have := ((hsm x).mp (hsb.subset q)).1
            exact ⟨this, by rw [pd_ml_bit hm32 (by omega)]; simpa using q⟩
        rw [pd_vb_can (fun x hx => by have := pd_wl_ok hV (hsb.subset ((hbl x).mp hx)); omega), pd_VM_same (pd_bl_nodup _) (hsb.nodup hnd) hbl]
        simp only at hpos
        omega
def pd_why (D : Nat → Int) (o : Int) : Int := if 0 ≤ o ∧ pd_ob D o.toNat = true then (if pd_wb D (D 1) o.toNat = true then (if pd_acs D o.toNat (D 0).toNat = 0 then 2 else if pd_acs D o.toNat (D 0).toNat < pd_l0 D o.toNat then 3 else if bc_bit (pd_pk D (pd_l0 D) (fun _ => false) (D 1) (-1)).2 o.toNat = true then 0 else if (pd_pk D (pd_l0 D) (bc_bit (bc_shl 1 o)) (D 1) (-1)).1 = 0 then 4 else 5) else 1) else -1
theorem pd_pk_b {D : Nat → Int} (hW : pd_W D) {must : Nat → Bool} {mid but : Int} : 0 ≤ (pd_pk D (pd_l0 D) must mid but).1 ∧ (pd_pk D (pd_l0 D) must mid but).1 ≤ 600000 := by
  have s1 := pd_scan_spec (fun S => pd_VM D (pd_l0 D) (pd_sz D) S S) pd_ml (pd_subs must (pd_wl D mid but)) (0, 0)
  have hlen : (pd_wl D mid but).length ≤ 10 := by
    have := List.length_filter_le (pd_qf D mid but) (pd_rk D (pd_ob D) (D 0).toNat)
    have := hW.2
    unfold pd_wl; omega
  refine ⟨s1.1, ?_⟩
  show (pd_scan (fun S => pd_VM D (pd_l0 D) (pd_sz D) S S) pd_ml (pd_subs must (pd_wl D mid but)) (0, 0)).1 ≤ 600000
  rcases s1.2.2 with e | ⟨S, hS, e, -⟩
  · rw [e]; decide
  · rw [e]
    have hsb := pd_subs_sub _ _ hS
    have := hsb.length_le
    exact (pd_VM_bd (D := D) (lo := pd_l0 D) (hi := pd_sz D) (T := S) (U := S) (fun x hx => by
      have := pd_wl_ok hW.1 (hsb.subset hx)
      omega) (by omega)).2
theorem pd_pk_vr {D : Nat → Int} (hW : pd_W D) {must : Nat → Bool} {mid but : Int} : bc_vr (pd_pk D (pd_l0 D) must mid but).1 := by
  have := pd_pk_b hW (must := must) (mid := mid) (but := but)
  unfold bc_vr; omega
