/-! PURE: the fills. L what must be had, G what may be had now, H full sizes, by firm -/
theorem pd_t6_but {G H : Nat → Int} {g : Nat} (hg : g < 6) (h : ∀ k, k < 6 → k ≠ g → G k = H k) : pd_t6 G - G g = pd_t6 H - H g := by
  have h0 := h 0 (by omega)
  have h1 := h 1 (by omega)
  have h2 := h 2 (by omega)
  have h3 := h 3 (by omega)
  have h4 := h 4 (by omega)
  have h5 := h 5 (by omega)
  have e : g = 0 ∨ g = 1 ∨ g = 2 ∨ g = 3 ∨ g = 4 ∨ g = 5 := by omega
  rcases e with rfl | rfl | rfl | rfl | rfl | rfl <;> simp at h0 h1 h2 h3 h4 h5 <;> unfold pd_t6 <;> omega
theorem pd_side {L G H K : Nat → Int} {V : Int} (a : ∀ f, f < 6 → 0 ≤ L f ∧ L f ≤ G f ∧ G f ≤ H f) (p : ∀ f, f < 6 → 0 ≤ K f) (t : pd_t6 L ≤ V) (c : ∀ f, f < 6 → G f < H f → pd_t6 L = V ∨ L f = pd_t6 K - K f) (hV : V ≤ pd_t6 K) : pd_t6 L = V ∨ (∀ k, k < 6 → G k = H k) ∨ ∃ g, g < 6 ∧ L g = pd_t6 K - K g ∧ ∀ k, k < 6 → k ≠ g → G k = H k := by
  by_cases t2 : pd_t6 L = V
  · exact Or.inl t2
  · by_cases al : ∀ k, k < 6 → G k = H k
    · exact Or.inr (Or.inl al)
    · obtain ⟨g, hg⟩ := Classical.not_forall.mp al
      obtain ⟨hg6, hgne⟩ := Classical.not_imp.mp hg
      have hgl : G g < H g := by have := (a g hg6).2.2; omega
      have hgt : L g = pd_t6 K - K g := (c g hg6 hgl).resolve_left t2
      refine Or.inr (Or.inr ⟨g, hg6, hgt, fun k hk hkg => ?_⟩)
      refine Classical.byContradiction (fun z => ?_)
      have hkl : G k < H k := by have := (a k hk).2.2; omega
      have hkt : L k = pd_t6 K - K k := (c k hk hkl).resolve_left t2
      have s1 := pd_t6_two p hk hg6 hkg
      have s2 := pd_t6_two (g := L) (fun f hf => (a f hf).1) hk hg6 hkg
      omega
theorem pd_ar1 {l0 l1 V tl tg g : Int} (h1 : tl = V) (h2 : tl - l1 ≤ tg - g) (h3 : l0 + l1 ≤ V) : l0 ≤ tg - g := by omega
theorem pd_ar2 {lg tk kg kf gg tg gf th hg hf l : Int} (h1 : lg = tk - kg) (h2 : lg ≤ gg) (h3 : gf = hf) (h4 : tg - gg = th - hg) (h5 : kg + kf ≤ tk) (h6 : hg + hf ≤ th) (h7 : l ≤ kf) : l ≤ tg - gf := by omega
theorem pd_ar3 {V tg gg th hg lg tk kg : Int} (h1 : tg - gg = th - hg) (h2 : lg ≤ gg) (h3 : lg = tk - kg) (h4 : V ≤ (th - hg) + (tk - kg)) : V ≤ tg := by omega
theorem pd_ar4 {V t l0 l1 u w x y : Int} (h1 : t = V) (h2 : t - l0 ≤ u - w) (h3 : l0 ≤ x - y) : V ≤ (u - w) + (x - y) := by omega
theorem pd_ar5 {V t l1 u w x y : Int} (h1 : t = V) (h2 : t - l1 ≤ x - y) (h3 : l1 ≤ u - w) : V ≤ (u - w) + (x - y) := by omega
theorem pd_ar6 {V u w x y a b c e : Int} (h1 : u - w = a - b) (h2 : x - y = c - e) (h3 : V ≤ (a - b) + (c - e)) : V ≤ (u - w) + (x - y) := by omega
/-- one side cut at firm g, the other not -/
theorem pd_ar7 {V lg t1 h1g g0g t0 g0f tg0 h0g h0f u1 h1f : Int} (a1 : lg = t1 - h1g) (a2 : lg ≤ g0g) (a3 : g0f = h0f) (a4 : tg0 - g0g = t0 - h0g) (a5 : h0g + h0f ≤ t0) (a6 : h1g + h1f ≤ t1) (a7 : u1 = t1 - h1f) (a8 : V ≤ t1) : V ≤ (tg0 - g0f) + u1 := by omega
theorem pd_ar8 {V l0g t1 h1g g0g t0 g0f tg0 h0g h0f l1g g1g g1f h1f tg1 : Int} (a1 : l0g = t1 - h1g) (a2 : l0g ≤ g0g) (a3 : g0f = h0f) (a4 : tg0 - g0g = t0 - h0g) (b1 : l1g = t0 - h0g) (b2 : l1g ≤ g1g) (b3 : g1f = h1f) (b4 : tg1 - g1g = t1 - h1g) (a5 : h0g + h0f ≤ t0) (b5 : h1g + h1f ≤ t1) (z : V ≤ (t0 - h0g) + (t1 - h1g)) : V ≤ (tg0 - g0f) + (tg1 - g1f) := by omega
theorem pd_ar9 {V l0g t1 h1g g0g t0 g0f tg0 h0g h0f l1k g1k g1f h1f tg1 h0k h1k : Int} (a1 : l0g = t1 - h1g) (a2 : l0g ≤ g0g) (a3 : g0f = h0f) (a4 : tg0 - g0g = t0 - h0g) (b1 : l1k = t0 - h0k) (b2 : l1k ≤ g1k) (b3 : g1f = h1f) (b4 : tg1 - g1k = t1 - h1k) (a5 : h0g + h0f ≤ t0) (c1 : h0k ≤ t0) (c2 : h1f + h1g + h1k ≤ t1) (z : V ≤ t1) : V ≤ (tg0 - g0f) + (tg1 - g1f) := by omega
theorem pd_t6_three {H : Nat → Int} (p : ∀ f, f < 6 → 0 ≤ H f) {f g k : Nat} (hf : f < 6) (hg : g < 6) (hk : k < 6) (e1 : f ≠ g) (e2 : f ≠ k) (e3 : g ≠ k) : H f + H g + H k ≤ pd_t6 H := by
  have b := pd_t6_but (G := fun j => if j = k then 0 else H j) (H := H) (g := k) hk (fun j hj hjk => by simp [hjk])
  have t := pd_t6_two (g := fun j => if j = k then 0 else H j) (fun j hj => by
    by_cases q : j = k
    · simp [q]
    · simp [q]; exact p j hj) hf hg e1
  simp only [if_neg e2, if_neg e3, if_true] at b t
  omega
/-- if no side and no firm is over its bound, and what was cut was cut at a bound, the volume can still be traded -/
theorem pd_bounds {L0 L1 G0 G1 H0 H1 : Nat → Int} {V : Int} (hV : V = pd_ce H0 H1 6) (a0 : ∀ f, f < 6 → 0 ≤ L0 f ∧ L0 f ≤ G0 f ∧ G0 f ≤ H0 f) (a1 : ∀ f, f < 6 → 0 ≤ L1 f ∧ L1 f ≤ G1 f ∧ G1 f ≤ H1 f) (t0 : pd_t6 L0 ≤ V) (t1 : pd_t6 L1 ≤ V)
    (b : ∀ f, f < 6 → L0 f ≤ pd_t6 H1 - H1 f ∧ L1 f ≤ pd_t6 H0 - H0 f)
    (c0 : ∀ f, f < 6 → G0 f < H0 f → pd_t6 L0 = V ∨ L0 f = pd_t6 H1 - H1 f) (c1 : ∀ f, f < 6 → G1 f < H1 f → pd_t6 L1 = V ∨ L1 f = pd_t6 H0 - H0 f) :
    (∀ f, f < 6 → L0 f ≤ pd_t6 G1 - G1 f ∧ L1 f ≤ pd_t6 G0 - G0 f) ∧ pd_fl L0 L1 6 ≤ V ∧ V ≤ pd_ce G0 G1 6 := by
  have p0 : ∀ f, f < 6 → 0 ≤ H0 f := fun f hf => by have := a0 f hf; omega
  have p1 : ∀ f, f < 6 → 0 ≤ H1 f := fun f hf => by have := a1 f hf; omega
  obtain ⟨z0, z1, z2⟩ := pd_ce_le (H0 := H0) (H1 := H1) 6
  rw [← hV] at z0 z1 z2
  have own : ∀ f, f < 6 → L0 f + L1 f ≤ V := fun f hf => by
    rw [hV]
    exact pd_own b (fun f hf => by have := a0 f hf; omega) (fun f hf => by have := a1 f hf; omega) hf
  have s0 := pd_side a0 p1 t0 c0 z1
  have s1 := pd_side a1 p0 t1 c1 z0
  have m0 : ∀ f, f < 6 → pd_t6 L0 - L0 f ≤ pd_t6 G0 - G0 f := fun f hf => pd_t6_mono1 (fun k hk => (a0 k hk).2.1) hf
  have m1 : ∀ f, f < 6 → pd_t6 L1 - L1 f ≤ pd_t6 G1 - G1 f := fun f hf => pd_t6_mono1 (fun k hk => (a1 k hk).2.1) hf
  have n0 : pd_t6 L0 ≤ pd_t6 G0 := pd_t6_mono (fun k hk => (a0 k hk).2.1)
  have n1 : pd_t6 L1 ≤ pd_t6 G1 := pd_t6_mono (fun k hk => (a1 k hk).2.1)
  -- what the others of a side may have, without firm f
  have u0 : ∀ f, f < 6 → (pd_t6 L0 = V ∨ pd_t6 G0 - G0 f = pd_t6 H0 - H0 f ∨ ∃ g, g < 6 ∧ g ≠ f ∧ L0 g = pd_t6 H1 - H1 g ∧ L0 g ≤ G0 g ∧ G0 f = H0 f ∧ pd_t6 G0 - G0 g = pd_t6 H0 - H0 g) := fun f hf => by
    rcases s0 with q | q | ⟨g, g1, g2, g3⟩
    · exact Or.inl q
    · exact Or.inr (Or.inl (pd_t6_but hf (fun k hk _ => q k hk)))
    · by_cases e : g = f
      · subst e; exact Or.inr (Or.inl (pd_t6_but g1 g3))
      · exact Or.inr (Or.inr ⟨g, g1, e, g2, (a0 g g1).2.1, g3 f hf (fun z => e z.symm), pd_t6_but g1 g3⟩)
  have u1 : ∀ f, f < 6 → (pd_t6 L1 = V ∨ pd_t6 G1 - G1 f = pd_t6 H1 - H1 f ∨ ∃ g, g < 6 ∧ g ≠ f ∧ L1 g = pd_t6 H0 - H0 g ∧ L1 g ≤ G1 g ∧ G1 f = H1 f ∧ pd_t6 G1 - G1 g = pd_t6 H1 - H1 g) := fun f hf => by
    rcases s1 with q | q | ⟨g, g1, g2, g3⟩
    · exact Or.inl q
    · exact Or.inr (Or.inl (pd_t6_but hf (fun k hk _ => q k hk)))
    · by_cases e : g = f
      · subst e; exact Or.inr (Or.inl (pd_t6_but g1 g3))
      · exact Or.inr (Or.inr ⟨g, g1, e, g2, (a1 g g1).2.1, g3 f hf (fun z => e z.symm), pd_t6_but g1 g3⟩)
  refine ⟨fun f hf => ⟨?_, ?_⟩, (pd_fl_le 6).mpr ⟨t0, t1, own⟩, pd_ce_ge ?_ ?_ 6 (fun f hf => ?_)⟩
  · rcases u1 f hf with q | q | ⟨g, g1, g2, g3, g4, g5, g6⟩
    · exact pd_ar1 q (m1 f hf) (own f hf)
    · rw [q]; exact (b f hf).1
    · exact pd_ar2 g3 g4 g5 g6 (pd_t6_two p0 g1 hf g2) (pd_t6_two p1 g1 hf g2) (Int.le_trans (a0 f hf).2.1 (a0 f hf).2.2)
  · rcases u0 f hf with q | q | ⟨g, g1, g2, g3, g4, g5, g6⟩
    · exact pd_ar1 q (m0 f hf) (by rw [Int.add_comm]; exact own f hf)
    · rw [q]; exact (b f hf).2
    · exact pd_ar2 g3 g4 g5 g6 (pd_t6_two p1 g1 hf g2) (pd_t6_two p0 g1 hf g2) (Int.le_trans (a1 f hf).2.1 (a1 f hf).2.2)
  · rcases s0 with q | q | ⟨g, g1, g2, g3⟩
    · rw [← q]; exact n0
    · have e1 := pd_t6_but (G := G0) (H := H0) (g := 0) (by omega) (fun k hk _ => q k hk)
      have e2 := q 0 (by omega)
      have e : pd_t6 G0 = pd_t6 H0 := by clear u0 u1 m0 m1 own; omega
      rw [e]; exact z0
    · exact pd_ar3 (pd_t6_but g1 g3) (a0 g g1).2.1 g2 (z2 g g1)
  · rcases s1 with q | q | ⟨g, g1, g2, g3⟩
    · rw [← q]; exact n1
    · have e1 := pd_t6_but (G := G1) (H := H1) (g := 0) (by omega) (fun k hk _ => q k hk)
      have e2 := q 0 (by omega)
      have e : pd_t6 G1 = pd_t6 H1 := by clear u0 u1 m0 m1 own; omega
      rw [e]; exact z1
    · exact pd_ar3 (pd_t6_but g1 g3) (a1 g g1).2.1 g2 (by rw [Int.add_comm]; exact z2 g g1)
  · rcases u0 f hf with q | q | ⟨g, g1, g2, g3, g4, g5, g6⟩
    · rcases u1 f hf with r | r | ⟨k, k1, k2, k3, k4, k5, k6⟩
      · exact pd_ar4 (l1 := 0) q (m0 f hf) (pd_ar1 r (m1 f hf) (own f hf))
      · exact pd_ar4 (l1 := 0) q (m0 f hf) (by rw [r]; exact (b f hf).1)
      · exact pd_ar4 (l1 := 0) q (m0 f hf) (pd_ar2 k3 k4 k5 k6 (pd_t6_two p0 k1 hf k2) (pd_t6_two p1 k1 hf k2) (Int.le_trans (a0 f hf).2.1 (a0 f hf).2.2))
    · rcases u1 f hf with r | r | ⟨k, k1, k2, k3, k4, k5, k6⟩
      · exact pd_ar5 r (m1 f hf) (by rw [q]; exact (b f hf).2)
      · exact pd_ar6 q r (z2 f hf)
      · rw [Int.add_comm]
        exact pd_ar7 k3 k4 k5 k6 (pd_t6_two p1 k1 hf k2) (pd_t6_two p0 k1 hf k2) q z0
    · rcases u1 f hf with r | r | ⟨k, k1, k2, k3, k4, k5, k6⟩
      · exact pd_ar5 r (m1 f hf) (pd_ar2 g3 g4 g5 g6 (pd_t6_two p1 g1 hf g2) (pd_t6_two p0 g1 hf g2) (Int.le_trans (a1 f hf).2.1 (a1 f hf).2.2))
      · exact pd_ar7 g3 g4 g5 g6 (pd_t6_two p0 g1 hf g2) (pd_t6_two p1 g1 hf g2) r z1
      · by_cases e : g = k
        · subst e
          exact pd_ar8 g3 g4 g5 g6 k3 k4 k5 k6 (pd_t6_two p0 g1 hf g2) (pd_t6_two p1 g1 hf g2) (z2 g g1)
        · exact pd_ar9 g3 g4 g5 g6 k3 k4 k5 k6 (pd_t6_two p0 g1 hf g2) (pd_t6_one p0 k1) (pd_t6_three p1 hf g1 k1 (fun z => g2 z.symm) (fun z => k2 z.symm) e) z1
