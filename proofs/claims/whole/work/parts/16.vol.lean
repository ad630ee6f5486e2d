/-! PURE: sums by side and firm, volumes, the search -/
def pd_t6 (g : Nat → Int) : Int := g 0 + g 1 + g 2 + g 3 + g 4 + g 5
def pd_ce (H0 H1 : Nat → Int) : Nat → Int
  | 0 => min (pd_t6 H0) (pd_t6 H1)
  | f + 1 => min (pd_ce H0 H1 f) ((pd_t6 H0 - H0 f) + (pd_t6 H1 - H1 f))
def pd_my (L0 L1 H0 H1 : Nat → Int) : Nat → Bool
  | 0 => true
  | f + 1 => pd_my L0 L1 H0 H1 f && (decide (L0 f ≤ pd_t6 H1 - H1 f) && decide (L1 f ≤ pd_t6 H0 - H0 f))
def pd_can (L0 L1 H0 H1 : Nat → Int) : Bool := pd_my L0 L1 H0 H1 6 && (decide (pd_t6 L0 ≤ pd_ce H0 H1 6) && decide (pd_t6 L1 ≤ pd_ce H0 H1 6))
def pd_vol (L0 L1 H0 H1 : Nat → Int) : Int := if pd_can L0 L1 H0 H1 then pd_ce H0 H1 6 else -1
theorem pd_my_iff {L0 L1 H0 H1 : Nat → Int} : ∀ n, pd_my L0 L1 H0 H1 n = true ↔ ∀ f, f < n → L0 f ≤ pd_t6 H1 - H1 f ∧ L1 f ≤ pd_t6 H0 - H0 f := by
  intro n
  induction n with
  | zero => simp [pd_my]
  | succ n ih =>
    rw [pd_my, Bool.and_eq_true, ih]
    simp only [Bool.and_eq_true, decide_eq_true_eq]
    constructor
    · intro h f hf
      by_cases e : f = n
      · subst e; exact h.2
      · exact h.1 f (by omega)
    · intro h
      exact ⟨fun f hf => h f (by omega), h n (by omega)⟩
theorem pd_ce_le {H0 H1 : Nat → Int} : ∀ n, pd_ce H0 H1 n ≤ pd_t6 H0 ∧ pd_ce H0 H1 n ≤ pd_t6 H1 ∧ ∀ f, f < n → pd_ce H0 H1 n ≤ (pd_t6 H0 - H0 f) + (pd_t6 H1 - H1 f) := by
  intro n
  induction n with
  | zero => rw [pd_ce]; exact ⟨by omega, by omega, fun f hf => by omega⟩
  | succ n ih =>
    rw [pd_ce]
    refine ⟨by omega, by omega, fun f hf => ?_⟩
    by_cases e : f = n
    · subst e; omega
    · have := ih.2.2 f (by omega); omega
theorem pd_ce_ge {H0 H1 : Nat → Int} {x : Int} (h0 : x ≤ pd_t6 H0) (h1 : x ≤ pd_t6 H1) : ∀ n, (∀ f, f < n → x ≤ (pd_t6 H0 - H0 f) + (pd_t6 H1 - H1 f)) → x ≤ pd_ce H0 H1 n := by
  intro n
  induction n with
  | zero => intro _; rw [pd_ce]; omega
  | succ n ih =>
    intro h
    rw [pd_ce]
    have := ih (fun f hf => h f (by omega))
    have := h n (by omega)
    omega
/-- one firm's share is in the sum of all, and so are two -/
theorem pd_t6_one {g : Nat → Int} (h : ∀ f, f < 6 → 0 ≤ g f) {f : Nat} (hf : f < 6) : g f ≤ pd_t6 g := by
  have h0 := h 0 (by omega); have h1 := h 1 (by omega); have h2 := h 2 (by omega); have h3 := h 3 (by omega); have h4 := h 4 (by omega); have h5 := h 5 (by omega)
  unfold pd_t6
  match f, hf with
  | 0, _ => omega
  | 1, _ => omega
  | 2, _ => omega
  | 3, _ => omega
  | 4, _ => omega
  | 5, _ => omega
theorem pd_t6_two {g : Nat → Int} (h : ∀ f, f < 6 → 0 ≤ g f) {f k : Nat} (hf : f < 6) (hk : k < 6) (hne : f ≠ k) : g f + g k ≤ pd_t6 g := by
  have := pd_t6_one (g := fun j => if j = f then 0 else g j) (fun j hj => by
    by_cases e : j = f
    · simp [e]
    · simp [e]; exact h j hj) (f := k) hk
  have e2 : pd_t6 (fun j => if j = f then 0 else g j) = pd_t6 g - g f := by
    unfold pd_t6
    match f, hf with
    | 0, _ => simp; omega
    | 1, _ => simp; omega
    | 2, _ => simp; omega
    | 3, _ => simp; omega
    | 4, _ => simp; omega
    | 5, _ => simp
  rw [e2] at this
  have e3 : (if k = f then (0 : Int) else g k) = g k := if_neg (fun q => hne q.symm)
  simp only [e3] at this
  omega
theorem pd_t6_mono {g g' : Nat → Int} (h : ∀ f, f < 6 → g' f ≤ g f) : pd_t6 g' ≤ pd_t6 g := by
  have h0 := h 0 (by omega); have h1 := h 1 (by omega); have h2 := h 2 (by omega); have h3 := h 3 (by omega); have h4 := h 4 (by omega); have h5 := h 5 (by omega)
  unfold pd_t6
  omega
theorem pd_t6_mono1 {g g' : Nat → Int} (h : ∀ f, f < 6 → g' f ≤ g f) {k : Nat} (hk : k < 6) : pd_t6 g' - g' k ≤ pd_t6 g - g k := by
  have h0 := h 0 (by omega); have h1 := h 1 (by omega); have h2 := h 2 (by omega); have h3 := h 3 (by omega); have h4 := h 4 (by omega); have h5 := h 5 (by omega)
  unfold pd_t6
  match k, hk with
  | 0, _ => omega
  | 1, _ => omega
  | 2, _ => omega
  | 3, _ => omega
  | 4, _ => omega
  | 5, _ => omega
theorem pd_can_iff {L0 L1 H0 H1 : Nat → Int} : pd_can L0 L1 H0 H1 = true ↔ (∀ f, f < 6 → L0 f ≤ pd_t6 H1 - H1 f ∧ L1 f ≤ pd_t6 H0 - H0 f) ∧ pd_t6 L0 ≤ pd_ce H0 H1 6 ∧ pd_t6 L1 ≤ pd_ce H0 H1 6 := by
  unfold pd_can
  rw [Bool.and_eq_true, pd_my_iff]
  simp
theorem pd_ce_mono {H0 H1 G0 G1 : Nat → Int} (h0 : ∀ f, f < 6 → G0 f ≤ H0 f) (h1 : ∀ f, f < 6 → G1 f ≤ H1 f) : ∀ n, n ≤ 6 → pd_ce G0 G1 n ≤ pd_ce H0 H1 n := by
  intro n
  induction n with
  | zero => intro _; have := pd_t6_mono h0; have := pd_t6_mono h1; rw [pd_ce, pd_ce]; omega
  | succ n ih =>
    intro hn
    have := ih (by omega)
    have := pd_t6_mono1 h0 (k := n) (by omega)
    have := pd_t6_mono1 h1 (k := n) (by omega)
    rw [pd_ce, pd_ce]
    omega
theorem pd_vol_mono {L0 L1 H0 H1 K0 K1 G0 G1 : Nat → Int} (l0 : ∀ f, f < 6 → L0 f ≤ K0 f) (l1 : ∀ f, f < 6 → L1 f ≤ K1 f) (h0 : ∀ f, f < 6 → G0 f ≤ H0 f) (h1 : ∀ f, f < 6 → G1 f ≤ H1 f) (hn : ∀ f, f < 6 → 0 ≤ L0 f) : pd_vol K0 K1 G0 G1 ≤ pd_vol L0 L1 H0 H1 := by
  have c := pd_ce_mono h0 h1 6 (by omega)
  have t0 := pd_t6_mono l0
  have t1 := pd_t6_mono l1
  have tn : 0 ≤ pd_t6 L0 := by
    have h0 := hn 0 (by omega); have h1 := hn 1 (by omega); have h2 := hn 2 (by omega); have h3 := hn 3 (by omega); have h4 := hn 4 (by omega); have h5 := hn 5 (by omega)
    unfold pd_t6; omega
  unfold pd_vol
  by_cases hk : pd_can K0 K1 G0 G1 = true
  · have hk2 := pd_can_iff.mp hk
    have hl : pd_can L0 L1 H0 H1 = true := by
      rw [pd_can_iff]
      refine ⟨fun f hf => ?_, by omega, by omega⟩
      have a1 := hk2.1 f hf
      have a2 := l0 f hf
      have a3 := l1 f hf
      have a4 := pd_t6_mono1 h0 hf
      have a5 := pd_t6_mono1 h1 hf
      omega
    rw [if_pos hk, if_pos hl]
    exact c
  · rw [if_neg hk]
    split
    · rename_i hl
      have := (pd_can_iff.mp hl).2.1
      omega
    · omega
/-- what an order's firm must sell and buy together is no more than the most -/
theorem pd_own {L0 L1 H0 H1 : Nat → Int} (hm : ∀ f, f < 6 → L0 f ≤ pd_t6 H1 - H1 f ∧ L1 f ≤ pd_t6 H0 - H0 f) (a0 : ∀ f, f < 6 → 0 ≤ L0 f ∧ L0 f ≤ H0 f) (a1 : ∀ f, f < 6 → 0 ≤ L1 f ∧ L1 f ≤ H1 f) {f : Nat} (hf : f < 6) : L0 f + L1 f ≤ pd_ce H0 H1 6 := by
  have p0 : ∀ f, f < 6 → 0 ≤ H0 f := fun f hf => by have := a0 f hf; omega
  have p1 : ∀ f, f < 6 → 0 ≤ H1 f := fun f hf => by have := a1 f hf; omega
  have m := hm f hf
  have b0 := a0 f hf
  have b1 := a1 f hf
  refine pd_ce_ge (by omega) (by omega) 6 (fun g hg => ?_)
  by_cases e : g = f
  · subst e; omega
  · have := pd_t6_two p0 hf hg (fun q => e q.symm)
    have := pd_t6_two p1 hf hg (fun q => e q.symm)
    omega
-- sums over a list of orders
def pd_sf (D : Nat → Int) (g : Nat → Int) (s : Int) (f : Nat) : List Nat → Int
  | [] => 0
  | x :: r => (if D (7 + 9 * x) = s ∧ D (7 + 9 * x + 4) = (f : Int) then g x else 0) + pd_sf D g s f r
def pd_ss (D : Nat → Int) (g : Nat → Int) (s : Int) : List Nat → Int
  | [] => 0
  | x :: r => (if D (7 + 9 * x) = s then g x else 0) + pd_ss D g s r
theorem pd_sf_app (D g : Nat → Int) (s : Int) (f : Nat) : ∀ a b : List Nat, pd_sf D g s f (a ++ b) = pd_sf D g s f a + pd_sf D g s f b := by
  intro a b
  induction a with
  | nil => simp [pd_sf]
  | cons x r ih => rw [List.cons_append, pd_sf, ih, pd_sf]; omega
theorem pd_ss_eq {D : Nat → Int} (g : Nat → Int) (s : Int) : ∀ l : List Nat, (∀ x ∈ l, 0 ≤ D (7 + 9 * x + 4) ∧ D (7 + 9 * x + 4) ≤ 5) → pd_t6 (fun f => pd_sf D g s f l) = pd_ss D g s l := by
  intro l
  induction l with
  | nil => intro _; simp [pd_t6, pd_sf, pd_ss]
  | cons x r ih =>
    intro h
    have h1 := ih (fun y hy => h y (List.mem_cons_of_mem _ hy))
    have h2 := h x List.mem_cons_self
    simp only [pd_t6] at h1 ⊢
    simp only [pd_sf, pd_ss]
    by_cases hs : D (7 + 9 * x) = s
    · have : D (7 + 9 * x + 4) = 0 ∨ D (7 + 9 * x + 4) = 1 ∨ D (7 + 9 * x + 4) = 2 ∨ D (7 + 9 * x + 4) = 3 ∨ D (7 + 9 * x + 4) = 4 ∨ D (7 + 9 * x + 4) = 5 := by omega
      rcases this with e | e | e | e | e | e <;> simp [hs, e] <;> omega
    · simp [hs]; omega
theorem pd_sf_nn {D g : Nat → Int} {s : Int} {f : Nat} : ∀ l : List Nat, (∀ x ∈ l, 0 ≤ g x) → 0 ≤ pd_sf D g s f l := by
  intro l
  induction l with
  | nil => intro _; simp [pd_sf]
  | cons x r ih =>
    intro h
    have h1 := ih (fun y hy => h y (List.mem_cons_of_mem _ hy))
    have h2 := h x List.mem_cons_self
    rw [pd_sf]
    split <;> omega
theorem pd_sf_sub {D g : Nat → Int} {s : Int} {f : Nat} {a b : List Nat} (hab : a.Sublist b) (h : ∀ x ∈ b, 0 ≤ g x) : pd_sf D g s f a ≤ pd_sf D g s f b := by
  induction hab with
  | slnil => exact Int.le_refl _
  | cons x _ ih =>
    have h1 := ih (fun y hy => h y (List.mem_cons_of_mem _ hy))
    have h2 := h x List.mem_cons_self
    rw [pd_sf]
    split <;> omega
  | cons_cons x _ ih =>
    have h1 := ih (fun y hy => h y (List.mem_cons_of_mem _ hy))
    rw [pd_sf, pd_sf]
    omega
theorem pd_sf_le {D g g' : Nat → Int} {s : Int} {f : Nat} : ∀ l : List Nat, (∀ x ∈ l, g x ≤ g' x) → pd_sf D g s f l ≤ pd_sf D g' s f l := by
  intro l
  induction l with
  | nil => intro _; simp [pd_sf]
  | cons x r ih =>
    intro h
    have h1 := ih (fun y hy => h y (List.mem_cons_of_mem _ hy))
    have h2 := h x List.mem_cons_self
    rw [pd_sf, pd_sf]
    split <;> omega
/-- the volume of what is between 'must' (leasts of T) and 'may' (sizes of U); of a set: T = U -/
def pd_VM (D lo hi : Nat → Int) (T U : List Nat) : Int := pd_vol (fun f => pd_sf D lo 0 f T) (fun f => pd_sf D lo 1 f T) (fun f => pd_sf D hi 0 f U) (fun f => pd_sf D hi 1 f U)
theorem pd_VM_mono {D lo hi : Nat → Int} {T T' U U' : List Nat} (hT : T.Sublist T') (hU : U'.Sublist U) (hl : ∀ x ∈ T', 0 ≤ lo x) (hh : ∀ x ∈ U, 0 ≤ hi x) : pd_VM D lo hi T' U' ≤ pd_VM D lo hi T U :=
  pd_vol_mono (fun _ _ => pd_sf_sub hT hl) (fun _ _ => pd_sf_sub hT hl) (fun _ _ => pd_sf_sub hU hh) (fun _ _ => pd_sf_sub hU hh) (fun _ _ => pd_sf_nn T (fun x hx => hl x (hT.subset hx)))
-- the search
def pd_subs (must : Nat → Bool) : List Nat → List (List Nat)
  | [] => [[]]
  | x :: R => (pd_subs must R).map (fun S => x :: S) ++ (if must x then [] else pd_subs must R)
theorem pd_subs_sub {must : Nat → Bool} : ∀ (R S : List Nat), S ∈ pd_subs must R → S.Sublist R := by
  intro R
  induction R with
  | nil => intro S h; simp [pd_subs] at h; subst h; exact List.Sublist.refl _
  | cons x R ih =>
    intro S h
    rw [pd_subs, List.mem_append] at h
    rcases h with h | h
    · obtain ⟨S', h1, h2⟩ := List.mem_map.mp h
      rw [← h2]
      exact (ih S' h1).cons_cons x
    · split at h
      · cases h
      · exact (ih S h).cons x
theorem pd_subs_of {must : Nat → Bool} : ∀ (R S : List Nat), S.Sublist R → (∀ x ∈ R, must x = true → x ∈ S) → R.Nodup → S ∈ pd_subs must R := by
  intro R
  induction R with
  | nil => intro S h _ _; simp at h; subst h; simp [pd_subs]
  | cons x R ih =>
    intro S h hm hn
    rw [List.nodup_cons] at hn
    rw [pd_subs, List.mem_append]
    cases h with
    | cons _ h =>
      right
      have hx : ¬ must x = true := fun q => hn.1 (h.subset (hm x List.mem_cons_self q))
      rw [if_neg hx]
      exact ih S h (fun y hy q => hm y (List.mem_cons_of_mem _ hy) q) hn.2
    | cons_cons _ h =>
      left
      rename_i S'
      refine List.mem_map.mpr ⟨S', ih S' h (fun y hy q => ?_) hn.2, rfl⟩
      have := hm y (List.mem_cons_of_mem _ hy) q
      rcases List.mem_cons.mp this with e | e
      · subst e; exact absurd hy hn.1
      · exact e
def pd_scan (V : List Nat → Int) (mk : List Nat → Int) : List (List Nat) → Int × Int → Int × Int
  | [], a => a
  | S :: r, a => pd_scan V mk r (if a.1 < V S then (V S, mk S) else a)
theorem pd_scan_app (V mk : List Nat → Int) : ∀ (l m : List (List Nat)) (a : Int × Int), pd_scan V mk (l ++ m) a = pd_scan V mk m (pd_scan V mk l a) := by
  intro l
  induction l with
  | nil => intro m a; rfl
  | cons S r ih => intro m a; rw [List.cons_append, pd_scan, ih, pd_scan]
theorem pd_scan_map (V mk : List Nat → Int) (x : Nat) : ∀ (l : List (List Nat)) (a : Int × Int), pd_scan V mk (l.map (fun S => x :: S)) a = pd_scan (fun S => V (x :: S)) (fun S => mk (x :: S)) l a := by
  intro l
  induction l with
  | nil => intro a; rfl
  | cons S r ih => intro a; rw [List.map_cons, pd_scan, ih, pd_scan]
theorem pd_scan_id (V mk : List Nat → Int) : ∀ (l : List (List Nat)) (a : Int × Int), (∀ S ∈ l, V S ≤ a.1) → pd_scan V mk l a = a := by
  intro l
  induction l with
  | nil => intro a _; rfl
  | cons S r ih =>
    intro a h
    have := h S List.mem_cons_self
    rw [pd_scan, if_neg (by omega)]
    exact ih a (fun S' hS' => h S' (List.mem_cons_of_mem _ hS'))
theorem pd_scan_spec (V mk : List Nat → Int) : ∀ (l : List (List Nat)) (a : Int × Int), a.1 ≤ (pd_scan V mk l a).1 ∧ (∀ S ∈ l, V S ≤ (pd_scan V mk l a).1) ∧ (pd_scan V mk l a = a ∨ ∃ S ∈ l, pd_scan V mk l a = (V S, mk S) ∧ a.1 < V S) := by
  intro l
  induction l with
  | nil => intro a; exact ⟨Int.le_refl _, (fun S h => by cases h), Or.inl rfl⟩
  | cons S r ih =>
    intro a
    rw [pd_scan]
    by_cases hc : a.1 < V S
    · rw [if_pos hc]
      obtain ⟨h1, h2, h3⟩ := ih (V S, mk S)
      dsimp only at h1
      refine ⟨by omega, fun S' hS' => ?_, Or.inr ?_⟩
      · rcases List.mem_cons.mp hS' with e | e
        · rw [e]; exact h1
        · exact h2 S' e
      · rcases h3 with h3 | ⟨S', h4, h5, h6⟩
        · exact ⟨S, List.mem_cons_self, h3, hc⟩
        · exact ⟨S', List.mem_cons_of_mem _ h4, h5, by dsimp only at h6; omega⟩
    · rw [if_neg hc]
      obtain ⟨h1, h2, h3⟩ := ih a
      refine ⟨h1, fun S' hS' => ?_, ?_⟩
      · rcases List.mem_cons.mp hS' with e | e
        · rw [e]; omega
        · exact h2 S' e
      · rcases h3 with h3 | ⟨S', h4, h5, h6⟩
        · exact Or.inl h3
        · exact Or.inr ⟨S', List.mem_cons_of_mem _ h4, h5, h6⟩
def pd_mlk (m : Int) : List Nat → Int
  | [] => m
  | o :: r => pd_mlk (bc_or m (bc_shl 1 o)) r
def pd_ml (l : List Nat) : Int := pd_mlk 0 l
theorem pd_mlk_app (a : List Nat) : ∀ (m : Int) (b : List Nat), pd_mlk m (a ++ b) = pd_mlk (pd_mlk m a) b := by
  induction a with
  | nil => intro m b; rfl
  | cons x r ih => intro m b; rw [List.cons_append, pd_mlk, ih, pd_mlk]
theorem pd_mlk_bit : ∀ (l : List Nat) (m : Int) (i : Nat), (∀ x ∈ l, x < 32) → i < 32 → bc_bit (pd_mlk m l) i = (bc_bit m i || decide (i ∈ l)) := by
  intro l
  induction l with
  | nil => intro m i _ _; simp [pd_mlk]
  | cons x r ih =>
    intro m i h hi
    rw [pd_mlk, ih _ i (fun y hy => h y (List.mem_cons_of_mem _ hy)) hi, bc_bit_or, bc_bit_shl x i (h x List.mem_cons_self) hi]
    by_cases e : i = x
    · subst e; simp
    · simp [e]
theorem pd_ml_bit {l : List Nat} {i : Nat} (h : ∀ x ∈ l, x < 32) (hi : i < 32) : bc_bit (pd_ml l) i = decide (i ∈ l) := by
  unfold pd_ml
  rw [pd_mlk_bit l 0 i h hi, bc_bit_0]
  simp
theorem pd_mlk_vr : ∀ (l : List Nat) (m : Int), bc_vr m → bc_vr (pd_mlk m l) := by
  intro l
  induction l with
  | nil => intro m h; exact h
  | cons x r ih => intro m _; rw [pd_mlk]; exact ih _ (bc_vr_or _ _)
/-- what is chosen among the ranked orders R, those that 'must' tells in it: volume and mask -/
def pd_ch (D lo hi : Nat → Int) (must : Nat → Bool) (R : List Nat) : Int × Int := pd_scan (fun S => pd_VM D lo hi S S) pd_ml (pd_subs must R) (0, 0)
/-- the walk from one point of the search on: T taken, R open -/
def pd_dn (D lo hi : Nat → Int) (must : Nat → Bool) (T R : List Nat) (a : Int × Int) : Int × Int := pd_scan (fun S => pd_VM D lo hi (T ++ S) (T ++ S)) (fun S => pd_mlk (pd_ml T) S) (pd_subs must R) a
theorem pd_dn_cut {D lo hi : Nat → Int} {must : Nat → Bool} {T R : List Nat} {a : Int × Int} (hl : ∀ x ∈ T ++ R, 0 ≤ lo x) (hh : ∀ x ∈ T ++ R, 0 ≤ hi x) (h : pd_VM D lo hi T (T ++ R) ≤ a.1) : pd_dn D lo hi must T R a = a := by
  refine pd_scan_id _ _ _ _ (fun S hS => ?_)
  have hs := pd_subs_sub R S hS
  have h1 : (T ++ S).Sublist (T ++ R) := (List.Sublist.refl T).append hs
  have h2 : T.Sublist (T ++ S) := List.sublist_append_left _ _
  have := pd_VM_mono (D := D) (lo := lo) (hi := hi) h2 h1 (fun x hx => hl x (h1.subset hx)) hh
  omega
theorem pd_dn_nil {D lo hi : Nat → Int} {must : Nat → Bool} {T : List Nat} {a : Int × Int} : pd_dn D lo hi must T [] a = if a.1 < pd_VM D lo hi T T then (pd_VM D lo hi T T, pd_ml T) else a := by
  unfold pd_dn
  simp [pd_subs, pd_scan, pd_mlk]
theorem pd_dn_cons {D lo hi : Nat → Int} {must : Nat → Bool} {T R : List Nat} {x : Nat} {a : Int × Int} : pd_dn D lo hi must T (x :: R) a = if must x then pd_dn D lo hi must (T ++ [x]) R a else pd_dn D lo hi must T R (pd_dn D lo hi must (T ++ [x]) R a) := by
  have e : pd_scan (fun S => pd_VM D lo hi (T ++ S) (T ++ S)) (fun S => pd_mlk (pd_ml T) S) ((pd_subs must R).map (fun S => x :: S)) a = pd_dn D lo hi must (T ++ [x]) R a := by
    rw [pd_scan_map]
    unfold pd_dn
    have e1 : (fun S => pd_VM D lo hi (T ++ x :: S) (T ++ x :: S)) = (fun S => pd_VM D lo hi (T ++ [x] ++ S) (T ++ [x] ++ S)) := by
      funext S; rw [List.append_assoc]; rfl
    have e2 : (fun S => pd_mlk (pd_ml T) (x :: S)) = (fun S => pd_mlk (pd_ml (T ++ [x])) S) := by
      funext S
      unfold pd_ml
      rw [pd_mlk_app]
      rfl
    rw [e1, e2]
  show pd_scan _ _ (pd_subs must (x :: R)) a = _
  rw [pd_subs, pd_scan_app, e]
  split
  · rfl
  · rfl
theorem pd_dn_ch {D lo hi : Nat → Int} {must : Nat → Bool} {R : List Nat} : pd_dn D lo hi must [] R (0, 0) = pd_ch D lo hi must R := rfl
