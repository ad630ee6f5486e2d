/-! PURE: the best midpoint -/
def pd_vat (D : Nat → Int) (m : Int) : Int := (pd_pk D (pd_l0 D) (fun _ => false) m (-1)).1
theorem pd_filter_sub {p q : Nat → Bool} {l : List Nat} (h : ∀ x ∈ l, p x = true → q x = true) : (l.filter p).Sublist (l.filter q) := by
  have e : l.filter p = (l.filter q).filter p := by
    rw [List.filter_filter]
    refine List.filter_congr (fun x hx => ?_)
    cases hp : p x with
    | false => rfl
    | true => rw [h x hx hp]; rfl
  rw [e]
  exact List.filter_sublist
theorem pd_vat_mono {D : Nat → Int} {m c : Int} (h : ∀ i : Nat, (i : Int) < D 0 → pd_wb D m i = true → pd_wb D c i = true) : pd_vat D m ≤ pd_vat D c := by
  have hnd : (pd_wl D c (-1)).Nodup := (List.filter_sublist).nodup (pd_rk_nodup _)
  have hsub : (pd_wl D m (-1)).Sublist (pd_wl D c (-1)) := pd_filter_sub (fun x hx hp => by
    have hx0 := ((pd_rk_mem _).mp hx).1
    unfold pd_qf at hp ⊢
    rw [Bool.and_eq_true] at hp ⊢
    exact ⟨hp.1, h x (by omega) hp.2⟩)
  have s1 := pd_scan_spec (fun S => pd_VM D (pd_l0 D) (pd_sz D) S S) pd_ml (pd_subs (fun _ => false) (pd_wl D m (-1))) (0, 0)
  have s2 := pd_scan_spec (fun S => pd_VM D (pd_l0 D) (pd_sz D) S S) pd_ml (pd_subs (fun _ => false) (pd_wl D c (-1))) (0, 0)
  show (pd_scan (fun S => pd_VM D (pd_l0 D) (pd_sz D) S S) pd_ml (pd_subs (fun _ => false) (pd_wl D m (-1))) (0, 0)).1 ≤ (pd_scan (fun S => pd_VM D (pd_l0 D) (pd_sz D) S S) pd_ml (pd_subs (fun _ => false) (pd_wl D c (-1))) (0, 0)).1
  rcases s1.2.2 with e | ⟨S, hS, e, -⟩
  · rw [e]; exact s2.1
  · rw [e]
    exact s2.2.1 S (pd_subs_of _ _ ((pd_subs_sub _ _ hS).trans hsub) (fun x _ q => absurd q (by decide)) hnd)
theorem pd_vat_b {D : Nat → Int} (hW : pd_W D) {m : Int} : 0 ≤ pd_vat D m ∧ pd_vat D m ≤ 600000 := by
  have s1 := pd_scan_spec (fun S => pd_VM D (pd_l0 D) (pd_sz D) S S) pd_ml (pd_subs (fun _ => false) (pd_wl D m (-1))) (0, 0)
  have hlen : (pd_wl D m (-1)).length ≤ 10 := by
    have := List.length_filter_le (pd_qf D m (-1)) (pd_rk D (pd_ob D) (D 0).toNat)
    have := hW.2
    unfold pd_wl; omega
  refine ⟨s1.1, ?_⟩
  show (pd_scan (fun S => pd_VM D (pd_l0 D) (pd_sz D) S S) pd_ml (pd_subs (fun _ => false) (pd_wl D m (-1))) (0, 0)).1 ≤ 600000
  rcases s1.2.2 with e | ⟨S, hS, e, -⟩
  · rw [e]; decide
  · rw [e]
    have hsb := pd_subs_sub _ _ hS
    have := hsb.length_le
    exact (pd_VM_bd (D := D) (lo := pd_l0 D) (hi := pd_sz D) (T := S) (U := S) (fun x hx => by
      have := pd_wl_ok hW.1 (hsb.subset hx)
      omega) (by omega)).2
/-- the first of the largest values at 0, 1 .. k -/
def pd_bm (f : Int → Int) : Nat → Nat
  | 0 => 0
  | k + 1 => if f (pd_bm f k : Int) < f ((k : Int) + 1) then k + 1 else pd_bm f k
theorem pd_bm_spec (f : Int → Int) : ∀ k : Nat, pd_bm f k ≤ k ∧ (∀ m : Nat, m ≤ k → f (m : Int) ≤ f (pd_bm f k : Int)) ∧ ∀ m : Nat, m < pd_bm f k → f (m : Int) < f (pd_bm f k : Int) := by
  intro k
  induction k with
  | zero => exact ⟨Nat.le_refl _, fun m hm => by have : m = 0 := by omega
                                                 subst this; exact Int.le_refl _, fun m hm => absurd hm (Nat.not_lt_zero m)⟩
  | succ k ih =>
    rw [pd_bm]
    have e1 : ((k + 1 : Nat) : Int) = (k : Int) + 1 := by omega
    by_cases c : f (pd_bm f k : Int) < f ((k : Int) + 1)
    · rw [if_pos c, e1]
      refine ⟨by omega, fun m hm => ?_, fun m hm => ?_⟩
      · by_cases e : m = k + 1
        · subst e; rw [e1]; exact Int.le_refl _
        · have := ih.2.1 m (by omega); omega
      · have := ih.2.1 m (by omega); omega
    · rw [if_neg c]
      refine ⟨by omega, fun m hm => ?_, ih.2.2⟩
      by_cases e : m = k + 1
      · subst e; rw [e1]; omega
      · exact ih.2.1 m (by omega)
theorem pd_bm_uniq {f : Int → Int} {b k : Nat} (hb : b ≤ k) (h1 : ∀ m : Nat, m ≤ k → f (m : Int) ≤ f (b : Int)) (h2 : ∀ m : Nat, m < b → f (m : Int) < f (b : Int)) : b = pd_bm f k := by
  obtain ⟨g1, g2, g3⟩ := pd_bm_spec f k
  have a1 := g2 b hb
  have a2 := h1 (pd_bm f k) g1
  rcases Nat.lt_trichotomy b (pd_bm f k) with q | q | q
  · have := g3 b q; omega
  · exact q
  · have := h2 _ q; omega
/-- the limit of a seller that stands for the midpoint m -/
theorem pd_seller {D : Nat → Int} (hV : pd_V D) {m : Int} (hm : 0 ≤ m) : ∀ i : Nat, (i : Int) ≤ D 0 → ∃ c : Int, 0 ≤ c ∧ c ≤ m ∧ (c = 0 ∨ ∃ y : Nat, y < i ∧ pd_ob D y = true ∧ D (7 + 9 * y) = 0 ∧ D (7 + 9 * y + 3) = c) ∧ ∀ y : Nat, y < i → pd_ob D y = true → D (7 + 9 * y) = 0 → D (7 + 9 * y + 3) ≤ m → D (7 + 9 * y + 3) ≤ c := by
  intro i
  induction i with
  | zero => intro _; exact ⟨0, by omega, hm, Or.inl rfl, fun y hy => by omega⟩
  | succ i ih =>
    intro hi
    obtain ⟨c, c0, c1, c2, c3⟩ := ih (by omega)
    have r := (hV.2.2 i (by omega)).2.2.2.1
    by_cases q : pd_ob D i = true ∧ D (7 + 9 * i) = 0 ∧ D (7 + 9 * i + 3) ≤ m ∧ c < D (7 + 9 * i + 3)
    · refine ⟨D (7 + 9 * i + 3), by omega, q.2.2.1, Or.inr ⟨i, by omega, q.1, q.2.1, rfl⟩, fun y hy a1 a2 a3 => ?_⟩
      by_cases e : y = i
      · subst e; exact Int.le_refl _
      · have := c3 y (by omega) a1 a2 a3; omega
    · refine ⟨c, c0, c1, ?_, fun y hy a1 a2 a3 => ?_⟩
      · rcases c2 with e | ⟨y, y1, y2⟩
        · exact Or.inl e
        · exact Or.inr ⟨y, by omega, y2⟩
      · by_cases e : y = i
        · subst e
          refine Classical.byContradiction (fun z => q ⟨a1, a2, a3, by omega⟩)
        · exact c3 y (by omega) a1 a2 a3
/-- b beats 0 and the limits of the first i orders' open sellers -/
def pd_beats (D : Nat → Int) (b : Int) (i : Nat) : Prop := (0 ≤ b ∧ b ≤ 999) ∧ (pd_vat D 0 ≤ pd_vat D b ∧ (pd_vat D 0 = pd_vat D b → b ≤ 0)) ∧ ∀ y : Nat, y < i → pd_ob D y = true → D (7 + 9 * y) = 0 → pd_vat D (D (7 + 9 * y + 3)) ≤ pd_vat D b ∧ (pd_vat D (D (7 + 9 * y + 3)) = pd_vat D b → b ≤ D (7 + 9 * y + 3))
def pd_best (D : Nat → Int) : Int := (pd_bm (pd_vat D) 999 : Int)
theorem pd_beats_best {D : Nat → Int} (hV : pd_V D) {b : Int} (h : pd_beats D b (D 0).toNat) : b = pd_best D := by
  obtain ⟨hb, h0, h1⟩ := h
  have v0 := hV.1
  have key : ∀ m : Int, 0 ≤ m → m ≤ 999 → ∃ c : Int, c ≤ m ∧ pd_vat D m ≤ pd_vat D c ∧ pd_vat D c ≤ pd_vat D b ∧ (pd_vat D c = pd_vat D b → b ≤ c) := by
    intro m hm _
    obtain ⟨c, c0, c1, c2, c3⟩ := pd_seller hV hm (D 0).toNat (by omega)
    refine ⟨c, c1, pd_vat_mono (fun i hi hw => ?_), ?_⟩
    · obtain ⟨w1, w2⟩ := pd_wb_iff.mp hw
      refine pd_wb_iff.mpr ⟨w1, ?_⟩
      rcases w2 with w | w
      · exact Or.inl ⟨w.1, by omega⟩
      · have s := (hV.2.2 i hi).1
        refine Or.inr ⟨w.1, ?_⟩
        exact c3 i (by omega) w1 (by omega) w.2
    · rcases c2 with e | ⟨y, y1, y2, y3, y4⟩
      · rw [e]; exact h0
      · rw [← y4]; exact h1 y y1 y2 y3
  obtain ⟨b', rfl⟩ := Int.eq_ofNat_of_zero_le hb.1
  unfold pd_best
  have := pd_bm_uniq (f := pd_vat D) (b := b') (k := 999) (by omega) (fun m hm => by
    obtain ⟨c, k1, k2, k3, k4⟩ := key (m : Int) (by omega) (by omega)
    omega) (fun m hm => by
    obtain ⟨c, k1, k2, k3, k4⟩ := key (m : Int) (by omega) (by omega)
    have : ¬ pd_vat D c = pd_vat D (b' : Int) := fun e => by have := k4 e; omega
    omega)
  omega
section Best
variable {d : Nat} {h : bc_AH} {post : Option bc_AV → bc_AH → Prop} {T D : Nat → Int} {n F : Int} {Hs : List (Nat → Int)}
theorem pd_lo_n1 {s : Int} : pd_pk D (pd_lo D (-1) s) (fun _ => false) = pd_pk D (pd_l0 D) (fun _ => false) := by
  funext m b
  refine pd_ch_congr (fun x _ => ?_) (fun _ _ => rfl) (fun _ _ => rfl)
  unfold pd_lo pd_l0; rw [if_neg (by omega)]
theorem c6_vat (hC : pd_C 4 D h) (hW : pd_W D) {mid : Int} (hm : bc_vr mid) (e5 : h 22 5 = -1)
    (kk : ∀ h', pd_fr 22 28 h h' → h' 22 5 = -1 → post (some (.inl (pd_vat D mid))) h') : bc_OK (d + 17) 75 [.inr (.inr 0), .inl mid] h post := by
  refine c6_volumeAt hC hW hm e5 rfl ⟨by omega, by omega⟩ (fun x hx => ?_) (fun h' x y _ => ?_)
  · have := pd_wl_ok hW.1 hx
    unfold pd_lo; rw [if_neg (by omega)]
    have e : D (7 + 9 * x + 2) = pd_l0 D x := rfl
    rw [e]; omega
  · rw [pd_lo_n1]
    exact kk h' x y
theorem l6_best (hW : pd_W D) {h0 : bc_AH} (kk : ∀ h', pd_fr 22 28 h0 h' → h' 22 5 = -1 → post (some (.inl (pd_best D))) h') : ∀ (m i : Nat) (b : Int) (h : bc_AH), m + i = (D 0).toNat → pd_C 4 D h → h 22 5 = -1 → pd_fr 22 28 h0 h → pd_beats D b i → ∀ x4 x5, bc_AT (d + 17) 65 post 10 [some (.inr (.inr 0)), some (.inl b), some (.inl (pd_vat D b)), some (.inl (i : Int)), x4, x5] [] h := by
  have v0 := hW.1.1
  intro m
  induction m with
  | zero =>
    intro i b h hi hC e5 hf hb x4 x5
    have c0 := hC.1.1
    have e : i = (D 0).toNat := by omega
    refine at_X6_best_10 ?_
    simp -implicitDefEqProofs only [ks_X6_best_10, ks_X6_best_87, ↓vl_iconst, ↓vl_bipush, ↓vl_sipush, ↓vl_lconst, ↓vl_ldc, ↓vl_ldcw, ↓vl_ldc2, ↓vl_iload0, ↓vl_aload0, ↓vl_istore0, ↓vl_iinc0, ↓vl_iload1, ↓vl_aload1, ↓vl_istore1, ↓vl_iinc1, ↓vl_iload2, ↓vl_aload2, ↓vl_istore2, ↓vl_iinc2, ↓vl_iload3, ↓vl_aload3, ↓vl_istore3, ↓vl_iinc3, ↓vl_iload4, ↓vl_istore4, ↓vl_iinc4, ↓vl_iload5, ↓vl_istore5, ↓vl_iinc5, ↓vl_iload6, ↓vl_istore6, ↓vl_iinc6, ↓vl_iload7, ↓vl_istore7, ↓vl_iinc7, ↓vl_lload5, ↓vl_lstore5, ↓vl_iadd, ↓vl_isub, ↓vl_imul, ↓vl_iand, ↓vl_ior, ↓vl_ixor, ↓vl_ishl, ↓vl_ishr, ↓vl_iushr, ↓vl_idiv, ↓vl_irem, ↓vl_ladd, ↓vl_lsub, ↓vl_lmul, ↓vl_lcmp, ↓vl_i2l, ↓vl_dup, ↓vl_dup2, ↓vl_gotoF, ↓vl_gotoB, ↓vl_nnF, ↓vl_ic_eqF, ↓vl_if_eqF, ↓vl_ic_eqB, ↓vl_if_eqB, ↓vl_ic_neF, ↓vl_if_neF, ↓vl_ic_neB, ↓vl_if_neB, ↓vl_ic_ltF, ↓vl_if_ltF, ↓vl_ic_ltB, ↓vl_if_ltB, ↓vl_ic_geF, ↓vl_if_geF, ↓vl_ic_geB, ↓vl_if_geB, ↓vl_ic_gtF, ↓vl_if_gtF, ↓vl_ic_gtB, ↓vl_if_gtB, ↓vl_ic_leF, ↓vl_if_leF, ↓vl_ic_leB, ↓vl_if_leB, ↓vl_sw, ↓vl_get, ↓vl_putI, ↓vl_putL, ↓vl_iald, ↓vl_iast, ↓vl_alen, ↓vl_aald, ↓vl_iretI, ↓vl_iretZ, ↓vl_ret, ↓vl_mark, ↓vl_markT, ↓vl_skip, ↓vl_st0, ↓vl_vi0, ↓vl_st1, ↓vl_vi1, ↓vl_st2, ↓vl_vi2, ↓vl_st3, ↓vl_vi3, ↓vl_st4, ↓vl_vi4, ↓vl_st5, ↓vl_vi5, ↓vl_st6, ↓vl_vi6, ↓vl_min, ↓vl_max, ↓vl_cpy, ↓vk_kvs, ↓vk_kvn, ↓vk_gf0, ↓vk_gv0, ↓vk_gv1, ↓vk_gv2, ↓vk_pf, ↓vk_ar, ↓vk_arr, bc_lay, bc_fn, bc_mk, bc_cs, bc_cat, bc_nl, bc_nth, bc_en, bc_sw, true_and, and_true, ↓reduceIte, reduceCtorEq, Nat.reduceEqDiff, Nat.reduceLeDiff, Nat.reduceAdd, Nat.le_refl, Nat.zero_le, Int.cast_ofNat_Int, Int.reduceEq, eq_self, true_implies, false_implies, not_true_eq_false, not_false_eq_true, bc_vr, Int.reduceToNat, Int.toNat_natCast, Int.reduceLE, Int.reduceLT, Int.reduceNeg, true_or, or_true, forall_const, Int.reduceAdd, c0]
    refine ⟨⟨by omega, by omega⟩, ⟨by omega, by omega⟩, fun _ => ?_, fun c => absurd c (by omega)⟩
    rw [e] at hb
    rw [pd_beats_best hW.1 hb]
    exact kk h hf e5
  | succ m ih =>
    intro i b h hi hC e5 hf hb x4 x5
    have c0 := hC.1.1
    have e1 : ((i + 1 : Nat) : Int) = (i : Int) + 1 := by omega
    obtain ⟨f0, -, -, f3, -⟩ := pd_C_at hC (o := (i : Int)) (by omega) (by omega)
    obtain ⟨r0, -, -, r3, -⟩ := hW.1.2.2 i (by omega)
    simp only [Int.toNat_natCast] at f0 f3
    refine at_X6_best_10 ?_
    simp -implicitDefEqProofs only [ks_X6_best_10, ks_X6_best_87, ↓vl_iconst, ↓vl_bipush, ↓vl_sipush, ↓vl_lconst, ↓vl_ldc, ↓vl_ldcw, ↓vl_ldc2, ↓vl_iload0, ↓vl_aload0, ↓vl_istore0, ↓vl_iinc0, ↓vl_iload1, ↓vl_aload1, ↓vl_istore1, ↓vl_iinc1, ↓vl_iload2, ↓vl_aload2, ↓vl_istore2, ↓vl_iinc2, ↓vl_iload3, ↓vl_aload3, ↓vl_istore3, ↓vl_iinc3, ↓vl_iload4, ↓vl_istore4, ↓vl_iinc4, ↓vl_iload5, ↓vl_istore5, ↓vl_iinc5, ↓vl_iload6, ↓vl_istore6, ↓vl_iinc6, ↓vl_iload7, ↓vl_istore7, ↓vl_iinc7, ↓vl_lload5, ↓vl_lstore5, ↓vl_iadd, ↓vl_isub, ↓vl_imul, ↓vl_iand, ↓vl_ior, ↓vl_ixor, ↓vl_ishl, ↓vl_ishr, ↓vl_iushr, ↓vl_idiv, ↓vl_irem, ↓vl_ladd, ↓vl_lsub, ↓vl_lmul, ↓vl_lcmp, ↓vl_i2l, ↓vl_dup, ↓vl_dup2, ↓vl_gotoF, ↓vl_gotoB, ↓vl_nnF, ↓vl_ic_eqF, ↓vl_if_eqF, ↓vl_ic_eqB, ↓vl_if_eqB, ↓vl_ic_neF, ↓vl_if_neF, ↓vl_ic_neB, ↓vl_if_neB, ↓vl_ic_ltF, ↓vl_if_ltF, ↓vl_ic_ltB, ↓vl_if_ltB, ↓vl_ic_geF, ↓vl_if_geF, ↓vl_ic_geB, ↓vl_if_geB, ↓vl_ic_gtF, ↓vl_if_gtF, ↓vl_ic_gtB, ↓vl_if_gtB, ↓vl_ic_leF, ↓vl_if_leF, ↓vl_ic_leB, ↓vl_if_leB, ↓vl_sw, ↓vl_get, ↓vl_putI, ↓vl_putL, ↓vl_iald, ↓vl_iast, ↓vl_alen, ↓vl_aald, ↓vl_iretI, ↓vl_iretZ, ↓vl_ret, ↓vl_mark, ↓vl_markT, ↓vl_skip, ↓vl_st0, ↓vl_vi0, ↓vl_st1, ↓vl_vi1, ↓vl_st2, ↓vl_vi2, ↓vl_st3, ↓vl_vi3, ↓vl_st4, ↓vl_vi4, ↓vl_st5, ↓vl_vi5, ↓vl_st6, ↓vl_vi6, ↓vl_min, ↓vl_max, ↓vl_cpy, ↓vk_kvs, ↓vk_kvn, ↓vk_gf0, ↓vk_gv0, ↓vk_gv1, ↓vk_gv2, ↓vk_pf, ↓vk_ar, ↓vk_arr, bc_lay, bc_fn, bc_mk, bc_cs, bc_cat, bc_nl, bc_nth, bc_en, bc_sw, true_and, and_true, ↓reduceIte, reduceCtorEq, Nat.reduceEqDiff, Nat.reduceLeDiff, Nat.reduceAdd, Nat.le_refl, Nat.zero_le, Int.cast_ofNat_Int, Int.reduceEq, eq_self, true_implies, false_implies, not_true_eq_false, not_false_eq_true, bc_vr, Int.reduceToNat, Int.toNat_natCast, Int.reduceLE, Int.reduceLT, Int.reduceNeg, true_or, or_true, forall_const, Int.reduceAdd, c0]
    refine ⟨⟨by omega, by omega⟩, ⟨by omega, by omega⟩, fun c => absurd c (by omega), fun _ => ?_⟩
    refine c1_isOpen hC hW.1 ⟨by omega, by omega⟩ (fun _ _ q => ?_) (fun q => ?_)
    · rw [Int.toNat_natCast] at q
      simp -implicitDefEqProofs only [↓vl_iconst, ↓vl_bipush, ↓vl_sipush, ↓vl_lconst, ↓vl_ldc, ↓vl_ldcw, ↓vl_ldc2, ↓vl_iload0, ↓vl_aload0, ↓vl_istore0, ↓vl_iinc0, ↓vl_iload1, ↓vl_aload1, ↓vl_istore1, ↓vl_iinc1, ↓vl_iload2, ↓vl_aload2, ↓vl_istore2, ↓vl_iinc2, ↓vl_iload3, ↓vl_aload3, ↓vl_istore3, ↓vl_iinc3, ↓vl_iload4, ↓vl_istore4, ↓vl_iinc4, ↓vl_iload5, ↓vl_istore5, ↓vl_iinc5, ↓vl_iload6, ↓vl_istore6, ↓vl_iinc6, ↓vl_iload7, ↓vl_istore7, ↓vl_iinc7, ↓vl_lload5, ↓vl_lstore5, ↓vl_iadd, ↓vl_isub, ↓vl_imul, ↓vl_iand, ↓vl_ior, ↓vl_ixor, ↓vl_ishl, ↓vl_ishr, ↓vl_iushr, ↓vl_idiv, ↓vl_irem, ↓vl_ladd, ↓vl_lsub, ↓vl_lmul, ↓vl_lcmp, ↓vl_i2l, ↓vl_dup, ↓vl_dup2, ↓vl_gotoF, ↓vl_gotoB, ↓vl_nnF, ↓vl_ic_eqF, ↓vl_if_eqF, ↓vl_ic_eqB, ↓vl_if_eqB, ↓vl_ic_neF, ↓vl_if_neF, ↓vl_ic_neB, ↓vl_if_neB, ↓vl_ic_ltF, ↓vl_if_ltF, ↓vl_ic_ltB, ↓vl_if_ltB, ↓vl_ic_geF, ↓vl_if_geF, ↓vl_ic_geB, ↓vl_if_geB, ↓vl_ic_gtF, ↓vl_if_gtF, ↓vl_ic_gtB, ↓vl_if_gtB, ↓vl_ic_leF, ↓vl_if_leF, ↓vl_ic_leB, ↓vl_if_leB, ↓vl_sw, ↓vl_get, ↓vl_putI, ↓vl_putL, ↓vl_iald, ↓vl_iast, ↓vl_alen, ↓vl_aald, ↓vl_iretI, ↓vl_iretZ, ↓vl_ret, ↓vl_mark, ↓vl_markT, ↓vl_skip, ↓vl_st0, ↓vl_vi0, ↓vl_st1, ↓vl_vi1, ↓vl_st2, ↓vl_vi2, ↓vl_st3, ↓vl_vi3, ↓vl_st4, ↓vl_vi4, ↓vl_st5, ↓vl_vi5, ↓vl_st6, ↓vl_vi6, ↓vl_min, ↓vl_max, ↓vl_cpy, ↓vk_kvs, ↓vk_kvn, ↓vk_gf0, ↓vk_gv0, ↓vk_gv1, ↓vk_gv2, ↓vk_pf, ↓vk_ar, ↓vk_arr, bc_lay, bc_fn, bc_mk, bc_cs, bc_cat, bc_nl, bc_nth, bc_en, bc_sw, true_and, and_true, ↓reduceIte, reduceCtorEq, Nat.reduceEqDiff, Nat.reduceLeDiff, Nat.reduceAdd, Nat.le_refl, Nat.zero_le, Int.cast_ofNat_Int, Int.reduceEq, eq_self, true_implies, false_implies, not_true_eq_false, not_false_eq_true, bc_vr, Int.reduceToNat, Int.toNat_natCast, Int.reduceLE, Int.reduceLT, Int.reduceNeg, true_or, or_true, forall_const, Int.reduceAdd, f0, f3]
      refine ⟨by omega, by omega, ⟨by omega, by omega⟩, fun c => ?_, fun c => ⟨by omega, by omega, ?_⟩⟩
      · refine at_X6_best_87 ?_
        simp -implicitDefEqProofs only [ks_X6_best_87, ↓vl_iconst, ↓vl_bipush, ↓vl_sipush, ↓vl_lconst, ↓vl_ldc, ↓vl_ldcw, ↓vl_ldc2, ↓vl_iload0, ↓vl_aload0, ↓vl_istore0, ↓vl_iinc0, ↓vl_iload1, ↓vl_aload1, ↓vl_istore1, ↓vl_iinc1, ↓vl_iload2, ↓vl_aload2, ↓vl_istore2, ↓vl_iinc2, ↓vl_iload3, ↓vl_aload3, ↓vl_istore3, ↓vl_iinc3, ↓vl_iload4, ↓vl_istore4, ↓vl_iinc4, ↓vl_iload5, ↓vl_istore5, ↓vl_iinc5, ↓vl_iload6, ↓vl_istore6, ↓vl_iinc6, ↓vl_iload7, ↓vl_istore7, ↓vl_iinc7, ↓vl_lload5, ↓vl_lstore5, ↓vl_iadd, ↓vl_isub, ↓vl_imul, ↓vl_iand, ↓vl_ior, ↓vl_ixor, ↓vl_ishl, ↓vl_ishr, ↓vl_iushr, ↓vl_idiv, ↓vl_irem, ↓vl_ladd, ↓vl_lsub, ↓vl_lmul, ↓vl_lcmp, ↓vl_i2l, ↓vl_dup, ↓vl_dup2, ↓vl_gotoF, ↓vl_gotoB, ↓vl_nnF, ↓vl_ic_eqF, ↓vl_if_eqF, ↓vl_ic_eqB, ↓vl_if_eqB, ↓vl_ic_neF, ↓vl_if_neF, ↓vl_ic_neB, ↓vl_if_neB, ↓vl_ic_ltF, ↓vl_if_ltF, ↓vl_ic_ltB, ↓vl_if_ltB, ↓vl_ic_geF, ↓vl_if_geF, ↓vl_ic_geB, ↓vl_if_geB, ↓vl_ic_gtF, ↓vl_if_gtF, ↓vl_ic_gtB, ↓vl_if_gtB, ↓vl_ic_leF, ↓vl_if_leF, ↓vl_ic_leB, ↓vl_if_leB, ↓vl_sw, ↓vl_get, ↓vl_putI, ↓vl_putL, ↓vl_iald, ↓vl_iast, ↓vl_alen, ↓vl_aald, ↓vl_iretI, ↓vl_iretZ, ↓vl_ret, ↓vl_mark, ↓vl_markT, ↓vl_skip, ↓vl_st0, ↓vl_vi0, ↓vl_st1, ↓vl_vi1, ↓vl_st2, ↓vl_vi2, ↓vl_st3, ↓vl_vi3, ↓vl_st4, ↓vl_vi4, ↓vl_st5, ↓vl_vi5, ↓vl_st6, ↓vl_vi6, ↓vl_min, ↓vl_max, ↓vl_cpy, ↓vk_kvs, ↓vk_kvn, ↓vk_gf0, ↓vk_gv0, ↓vk_gv1, ↓vk_gv2, ↓vk_pf, ↓vk_ar, ↓vk_arr, bc_lay, bc_fn, bc_mk, bc_cs, bc_cat, bc_nl, bc_nth, bc_en, bc_sw, true_and, and_true, ↓reduceIte, reduceCtorEq, Nat.reduceEqDiff, Nat.reduceLeDiff, Nat.reduceAdd, Nat.le_refl, Nat.zero_le, Int.cast_ofNat_Int, Int.reduceEq, eq_self, true_implies, false_implies, not_true_eq_false, not_false_eq_true, bc_vr, Int.reduceToNat, Int.toNat_natCast, Int.reduceLE, Int.reduceLT, Int.reduceNeg, true_or, or_true, forall_const, Int.reduceAdd]
        rw [← e1]
        refine ih (i + 1) b h (by omega) hC e5 hf ⟨hb.1, hb.2.1, fun y hy a1 a2 => ?_⟩ _ _
        by_cases e : y = i
        · subst e; exact absurd a2 c
        · exact hb.2.2 y (by omega) a1 a2
      · refine c6_vat hC hW ⟨by omega, by omega⟩ e5 (fun h' x y => ?_)
        have bv := pd_vat_b hW (m := D (7 + 9 * i + 3))
        have bv2 := pd_vat_b hW (m := b)
        have hb1 := hb.1
        have hC' : pd_C 4 D h' := pd_C_fr hC (fun j a b => x j (by omega))
        have nx : ∀ b' : Int, pd_beats D b' (i + 1) → ∀ x4 x5, bc_AT (d + 17) 65 post 10 [some (.inr (.inr 0)), some (.inl b'), some (.inl (pd_vat D b')), some (.inl ((i : Int) + 1)), x4, x5] [] h' := fun b' hb' x4 x5 => by
          rw [← e1]
          exact ih (i + 1) b' h' (by omega) hC' y (pd_fr_trans hf x) hb' x4 x5
        have keep : (pd_vat D (D (7 + 9 * i + 3)) ≤ pd_vat D b ∧ (pd_vat D (D (7 + 9 * i + 3)) = pd_vat D b → b ≤ D (7 + 9 * i + 3))) → pd_beats D b (i + 1) := fun z => ⟨hb.1, hb.2.1, fun y hy a1 a2 => by
          by_cases e : y = i
          · subst e; exact z
          · exact hb.2.2 y (by omega) a1 a2⟩
        have swap : (pd_vat D b < pd_vat D (D (7 + 9 * i + 3)) ∨ (pd_vat D (D (7 + 9 * i + 3)) = pd_vat D b ∧ D (7 + 9 * i + 3) < b)) → pd_beats D (D (7 + 9 * i + 3)) (i + 1) := fun z => by
          refine ⟨r3, ?_, fun y hy a1 a2 => ?_⟩
          · have z0 := hb.2.1
            constructor
            · omega
            · intro q; have := z0.2; omega
          · by_cases e : y = i
            · subst e; exact ⟨Int.le_refl _, fun _ => Int.le_refl _⟩
            · have z0 := hb.2.2 y (by omega) a1 a2
              constructor
              · omega
              · intro q; have := z0.2; omega
        simp -implicitDefEqProofs only [↓vl_iconst, ↓vl_bipush, ↓vl_sipush, ↓vl_lconst, ↓vl_ldc, ↓vl_ldcw, ↓vl_ldc2, ↓vl_iload0, ↓vl_aload0, ↓vl_istore0, ↓vl_iinc0, ↓vl_iload1, ↓vl_aload1, ↓vl_istore1, ↓vl_iinc1, ↓vl_iload2, ↓vl_aload2, ↓vl_istore2, ↓vl_iinc2, ↓vl_iload3, ↓vl_aload3, ↓vl_istore3, ↓vl_iinc3, ↓vl_iload4, ↓vl_istore4, ↓vl_iinc4, ↓vl_iload5, ↓vl_istore5, ↓vl_iinc5, ↓vl_iload6, ↓vl_istore6, ↓vl_iinc6, ↓vl_iload7, ↓vl_istore7, ↓vl_iinc7, ↓vl_lload5, ↓vl_lstore5, ↓vl_iadd, ↓vl_isub, ↓vl_imul, ↓vl_iand, ↓vl_ior, ↓vl_ixor, ↓vl_ishl, ↓vl_ishr, ↓vl_iushr, ↓vl_idiv, ↓vl_irem, ↓vl_ladd, ↓vl_lsub, ↓vl_lmul, ↓vl_lcmp, ↓vl_i2l, ↓vl_dup, ↓vl_dup2, ↓vl_gotoF, ↓vl_gotoB, ↓vl_nnF, ↓vl_ic_eqF, ↓vl_if_eqF, ↓vl_ic_eqB, ↓vl_if_eqB, ↓vl_ic_neF, ↓vl_if_neF, ↓vl_ic_neB, ↓vl_if_neB, ↓vl_ic_ltF, ↓vl_if_ltF, ↓vl_ic_ltB, ↓vl_if_ltB, ↓vl_ic_geF, ↓vl_if_geF, ↓vl_ic_geB, ↓vl_if_geB, ↓vl_ic_gtF, ↓vl_if_gtF, ↓vl_ic_gtB, ↓vl_if_gtB, ↓vl_ic_leF, ↓vl_if_leF, ↓vl_ic_leB, ↓vl_if_leB, ↓vl_sw, ↓vl_get, ↓vl_putI, ↓vl_putL, ↓vl_iald, ↓vl_iast, ↓vl_alen, ↓vl_aald, ↓vl_iretI, ↓vl_iretZ, ↓vl_ret, ↓vl_mark, ↓vl_markT, ↓vl_skip, ↓vl_st0, ↓vl_vi0, ↓vl_st1, ↓vl_vi1, ↓vl_st2, ↓vl_vi2, ↓vl_st3, ↓vl_vi3, ↓vl_st4, ↓vl_vi4, ↓vl_st5, ↓vl_vi5, ↓vl_st6, ↓vl_vi6, ↓vl_min, ↓vl_max, ↓vl_cpy, ↓vk_kvs, ↓vk_kvn, ↓vk_gf0, ↓vk_gv0, ↓vk_gv1, ↓vk_gv2, ↓vk_pf, ↓vk_ar, ↓vk_arr, bc_lay, bc_fn, bc_mk, bc_cs, bc_cat, bc_nl, bc_nth, bc_en, bc_sw, true_and, and_true, ↓reduceIte, reduceCtorEq, Nat.reduceEqDiff, Nat.reduceLeDiff, Nat.reduceAdd, Nat.le_refl, Nat.zero_le, Int.cast_ofNat_Int, Int.reduceEq, eq_self, true_implies, false_implies, not_true_eq_false, not_false_eq_true, bc_vr, Int.reduceToNat, Int.toNat_natCast, Int.reduceLE, Int.reduceLT, Int.reduceNeg, true_or, or_true, forall_const, Int.reduceAdd]
        refine ⟨⟨by omega, by omega⟩, ⟨by omega, by omega⟩, fun c1 => ?_, fun c1 => ⟨⟨by omega, by omega⟩, ⟨by omega, by omega⟩, fun c2 => ?_, fun c2 => ⟨⟨by omega, by omega⟩, ⟨by omega, by omega⟩, fun c3 => ?_, fun c3 => ?_⟩⟩⟩
        all_goals refine at_X6_best_87 ?_
        all_goals simp -implicitDefEqProofs only [ks_X6_best_87, ↓vl_iconst, ↓vl_bipush, ↓vl_sipush, ↓vl_lconst, ↓vl_ldc, ↓vl_ldcw, ↓vl_ldc2, ↓vl_iload0, ↓vl_aload0, ↓vl_istore0, ↓vl_iinc0, ↓vl_iload1, ↓vl_aload1, ↓vl_istore1, ↓vl_iinc1, ↓vl_iload2, ↓vl_aload2, ↓vl_istore2, ↓vl_iinc2, ↓vl_iload3, ↓vl_aload3, ↓vl_istore3, ↓vl_iinc3, ↓vl_iload4, ↓vl_istore4, ↓vl_iinc4, ↓vl_iload5, ↓vl_istore5, ↓vl_iinc5, ↓vl_iload6, ↓vl_istore6, ↓vl_iinc6, ↓vl_iload7, ↓vl_istore7, ↓vl_iinc7, ↓vl_lload5, ↓vl_lstore5, ↓vl_iadd, ↓vl_isub, ↓vl_imul, ↓vl_iand, ↓vl_ior, ↓vl_ixor, ↓vl_ishl, ↓vl_ishr, ↓vl_iushr, ↓vl_idiv, ↓vl_irem, ↓vl_ladd, ↓vl_lsub, ↓vl_lmul, ↓vl_lcmp, ↓vl_i2l, ↓vl_dup, ↓vl_dup2, ↓vl_gotoF, ↓vl_gotoB, ↓vl_nnF, ↓vl_ic_eqF, ↓vl_if_eqF, ↓vl_ic_eqB, ↓vl_if_eqB, ↓vl_ic_neF, ↓vl_if_neF, ↓vl_ic_neB, ↓vl_if_neB, ↓vl_ic_ltF, ↓vl_if_ltF, ↓vl_ic_ltB, ↓vl_if_ltB, ↓vl_ic_geF, ↓vl_if_geF, ↓vl_ic_geB, ↓vl_if_geB, ↓vl_ic_gtF, ↓vl_if_gtF, ↓vl_ic_gtB, ↓vl_if_gtB, ↓vl_ic_leF, ↓vl_if_leF, ↓vl_ic_leB, ↓vl_if_leB, ↓vl_sw, ↓vl_get, ↓vl_putI, ↓vl_putL, ↓vl_iald, ↓vl_iast, ↓vl_alen, ↓vl_aald, ↓vl_iretI, ↓vl_iretZ, ↓vl_ret, ↓vl_mark, ↓vl_markT, ↓vl_skip, ↓vl_st0, ↓vl_vi0, ↓vl_st1, ↓vl_vi1, ↓vl_st2, ↓vl_vi2, ↓vl_st3, ↓vl_vi3, ↓vl_st4, ↓vl_vi4, ↓vl_st5, ↓vl_vi5, ↓vl_st6, ↓vl_vi6, ↓vl_min, ↓vl_max, ↓vl_cpy, ↓vk_kvs, ↓vk_kvn, ↓vk_gf0, ↓vk_gv0, ↓vk_gv1, ↓vk_gv2, ↓vk_pf, ↓vk_ar, ↓vk_arr, bc_lay, bc_fn, bc_mk, bc_cs, bc_cat, bc_nl, bc_nth, bc_en, bc_sw, true_and, and_true, ↓reduceIte, reduceCtorEq, Nat.reduceEqDiff, Nat.reduceLeDiff, Nat.reduceAdd, Nat.le_refl, Nat.zero_le, Int.cast_ofNat_Int, Int.reduceEq, eq_self, true_implies, false_implies, not_true_eq_false, not_false_eq_true, bc_vr, Int.reduceToNat, Int.toNat_natCast, Int.reduceLE, Int.reduceLT, Int.reduceNeg, true_or, or_true, forall_const, Int.reduceAdd]
        · exact nx _ (swap (by omega)) _ _
        · exact nx _ (keep (by omega)) _ _
        · exact nx _ (keep (by omega)) _ _
        · have e : pd_vat D b = pd_vat D (D (7 + 9 * i + 3)) := by omega
          exact nx _ (swap (by omega)) _ _
    · rw [Int.toNat_natCast] at q
      simp -implicitDefEqProofs only [↓vl_iconst, ↓vl_bipush, ↓vl_sipush, ↓vl_lconst, ↓vl_ldc, ↓vl_ldcw, ↓vl_ldc2, ↓vl_iload0, ↓vl_aload0, ↓vl_istore0, ↓vl_iinc0, ↓vl_iload1, ↓vl_aload1, ↓vl_istore1, ↓vl_iinc1, ↓vl_iload2, ↓vl_aload2, ↓vl_istore2, ↓vl_iinc2, ↓vl_iload3, ↓vl_aload3, ↓vl_istore3, ↓vl_iinc3, ↓vl_iload4, ↓vl_istore4, ↓vl_iinc4, ↓vl_iload5, ↓vl_istore5, ↓vl_iinc5, ↓vl_iload6, ↓vl_istore6, ↓vl_iinc6, ↓vl_iload7, ↓vl_istore7, ↓vl_iinc7, ↓vl_lload5, ↓vl_lstore5, ↓vl_iadd, ↓vl_isub, ↓vl_imul, ↓vl_iand, ↓vl_ior, ↓vl_ixor, ↓vl_ishl, ↓vl_ishr, ↓vl_iushr, ↓vl_idiv, ↓vl_irem, ↓vl_ladd, ↓vl_lsub, ↓vl_lmul, ↓vl_lcmp, ↓vl_i2l, ↓vl_dup, ↓vl_dup2, ↓vl_gotoF, ↓vl_gotoB, ↓vl_nnF, ↓vl_ic_eqF, ↓vl_if_eqF, ↓vl_ic_eqB, ↓vl_if_eqB, ↓vl_ic_neF, ↓vl_if_neF, ↓vl_ic_neB, ↓vl_if_neB, ↓vl_ic_ltF, ↓vl_if_ltF, ↓vl_ic_ltB, ↓vl_if_ltB, ↓vl_ic_geF, ↓vl_if_geF, ↓vl_ic_geB, ↓vl_if_geB, ↓vl_ic_gtF, ↓vl_if_gtF, ↓vl_ic_gtB, ↓vl_if_gtB, ↓vl_ic_leF, ↓vl_if_leF, ↓vl_ic_leB, ↓vl_if_leB, ↓vl_sw, ↓vl_get, ↓vl_putI, ↓vl_putL, ↓vl_iald, ↓vl_iast, ↓vl_alen, ↓vl_aald, ↓vl_iretI, ↓vl_iretZ, ↓vl_ret, ↓vl_mark, ↓vl_markT, ↓vl_skip, ↓vl_st0, ↓vl_vi0, ↓vl_st1, ↓vl_vi1, ↓vl_st2, ↓vl_vi2, ↓vl_st3, ↓vl_vi3, ↓vl_st4, ↓vl_vi4, ↓vl_st5, ↓vl_vi5, ↓vl_st6, ↓vl_vi6, ↓vl_min, ↓vl_max, ↓vl_cpy, ↓vk_kvs, ↓vk_kvn, ↓vk_gf0, ↓vk_gv0, ↓vk_gv1, ↓vk_gv2, ↓vk_pf, ↓vk_ar, ↓vk_arr, bc_lay, bc_fn, bc_mk, bc_cs, bc_cat, bc_nl, bc_nth, bc_en, bc_sw, true_and, and_true, ↓reduceIte, reduceCtorEq, Nat.reduceEqDiff, Nat.reduceLeDiff, Nat.reduceAdd, Nat.le_refl, Nat.zero_le, Int.cast_ofNat_Int, Int.reduceEq, eq_self, true_implies, false_implies, not_true_eq_false, not_false_eq_true, bc_vr, Int.reduceToNat, Int.toNat_natCast, Int.reduceLE, Int.reduceLT, Int.reduceNeg, true_or, or_true, forall_const, Int.reduceAdd]
      refine at_X6_best_87 ?_
      simp -implicitDefEqProofs only [ks_X6_best_87, ↓vl_iconst, ↓vl_bipush, ↓vl_sipush, ↓vl_lconst, ↓vl_ldc, ↓vl_ldcw, ↓vl_ldc2, ↓vl_iload0, ↓vl_aload0, ↓vl_istore0, ↓vl_iinc0, ↓vl_iload1, ↓vl_aload1, ↓vl_istore1, ↓vl_iinc1, ↓vl_iload2, ↓vl_aload2, ↓vl_istore2, ↓vl_iinc2, ↓vl_iload3, ↓vl_aload3, ↓vl_istore3, ↓vl_iinc3, ↓vl_iload4, ↓vl_istore4, ↓vl_iinc4, ↓vl_iload5, ↓vl_istore5, ↓vl_iinc5, ↓vl_iload6, ↓vl_istore6, ↓vl_iinc6, ↓vl_iload7, ↓vl_istore7, ↓vl_iinc7, ↓vl_lload5, ↓vl_lstore5, ↓vl_iadd, ↓vl_isub, ↓vl_imul, ↓vl_iand, ↓vl_ior, ↓vl_ixor, ↓vl_ishl, ↓vl_ishr, ↓vl_iushr, ↓vl_idiv, ↓vl_irem, ↓vl_ladd, ↓vl_lsub, ↓vl_lmul, ↓vl_lcmp, ↓vl_i2l, ↓vl_dup, ↓vl_dup2, ↓vl_gotoF, ↓vl_gotoB, ↓vl_nnF, ↓vl_ic_eqF, ↓vl_if_eqF, ↓vl_ic_eqB, ↓vl_if_eqB, ↓vl_ic_neF, ↓vl_if_neF, ↓vl_ic_neB, ↓vl_if_neB, ↓vl_ic_ltF, ↓vl_if_ltF, ↓vl_ic_ltB, ↓vl_if_ltB, ↓vl_ic_geF, ↓vl_if_geF, ↓vl_ic_geB, ↓vl_if_geB, ↓vl_ic_gtF, ↓vl_if_gtF, ↓vl_ic_gtB, ↓vl_if_gtB, ↓vl_ic_leF, ↓vl_if_leF, ↓vl_ic_leB, ↓vl_if_leB, ↓vl_sw, ↓vl_get, ↓vl_putI, ↓vl_putL, ↓vl_iald, ↓vl_iast, ↓vl_alen, ↓vl_aald, ↓vl_iretI, ↓vl_iretZ, ↓vl_ret, ↓vl_mark, ↓vl_markT, ↓vl_skip, ↓vl_st0, ↓vl_vi0, ↓vl_st1, ↓vl_vi1, ↓vl_st2, ↓vl_vi2, ↓vl_st3, ↓vl_vi3, ↓vl_st4, ↓vl_vi4, ↓vl_st5, ↓vl_vi5, ↓vl_st6, ↓vl_vi6, ↓vl_min, ↓vl_max, ↓vl_cpy, ↓vk_kvs, ↓vk_kvn, ↓vk_gf0, ↓vk_gv0, ↓vk_gv1, ↓vk_gv2, ↓vk_pf, ↓vk_ar, ↓vk_arr, bc_lay, bc_fn, bc_mk, bc_cs, bc_cat, bc_nl, bc_nth, bc_en, bc_sw, true_and, and_true, ↓reduceIte, reduceCtorEq, Nat.reduceEqDiff, Nat.reduceLeDiff, Nat.reduceAdd, Nat.le_refl, Nat.zero_le, Int.cast_ofNat_Int, Int.reduceEq, eq_self, true_implies, false_implies, not_true_eq_false, not_false_eq_true, bc_vr, Int.reduceToNat, Int.toNat_natCast, Int.reduceLE, Int.reduceLT, Int.reduceNeg, true_or, or_true, forall_const, Int.reduceAdd]
      rw [← e1]
      refine ih (i + 1) b h (by omega) hC e5 hf ⟨hb.1, hb.2.1, fun y hy a1 a2 => ?_⟩ _ _
      by_cases e : y = i
      · subst e; exact absurd ⟨by omega, a1⟩ q
      · exact hb.2.2 y (by omega) a1 a2
theorem p6_best (hR : pd_RC T n F D Hs h) (hS : pd_SV T n F D Hs) (kk : ∀ h', pd_RC T n F D Hs h' → pd_gC h h' → post (some (.inl (pd_best D))) h') : bc_OK (d + 18) 65 [.inr (.inr 0)] h post := by
  have hW := hS.2.2.1
  have v0 := hW.1.1
  refine bc_run (n := 6) ck_X6_best rfl rfl rfl rfl (Nat.le_of_ble_eq_true rfl) ?_
  simp -implicitDefEqProofs only [k_X6_best, ↓vl_iconst, ↓vl_bipush, ↓vl_sipush, ↓vl_lconst, ↓vl_ldc, ↓vl_ldcw, ↓vl_ldc2, ↓vl_iload0, ↓vl_aload0, ↓vl_istore0, ↓vl_iinc0, ↓vl_iload1, ↓vl_aload1, ↓vl_istore1, ↓vl_iinc1, ↓vl_iload2, ↓vl_aload2, ↓vl_istore2, ↓vl_iinc2, ↓vl_iload3, ↓vl_aload3, ↓vl_istore3, ↓vl_iinc3, ↓vl_iload4, ↓vl_istore4, ↓vl_iinc4, ↓vl_iload5, ↓vl_istore5, ↓vl_iinc5, ↓vl_iload6, ↓vl_istore6, ↓vl_iinc6, ↓vl_iload7, ↓vl_istore7, ↓vl_iinc7, ↓vl_lload5, ↓vl_lstore5, ↓vl_iadd, ↓vl_isub, ↓vl_imul, ↓vl_iand, ↓vl_ior, ↓vl_ixor, ↓vl_ishl, ↓vl_ishr, ↓vl_iushr, ↓vl_idiv, ↓vl_irem, ↓vl_ladd, ↓vl_lsub, ↓vl_lmul, ↓vl_lcmp, ↓vl_i2l, ↓vl_dup, ↓vl_dup2, ↓vl_gotoF, ↓vl_gotoB, ↓vl_nnF, ↓vl_ic_eqF, ↓vl_if_eqF, ↓vl_ic_eqB, ↓vl_if_eqB, ↓vl_ic_neF, ↓vl_if_neF, ↓vl_ic_neB, ↓vl_if_neB, ↓vl_ic_ltF, ↓vl_if_ltF, ↓vl_ic_ltB, ↓vl_if_ltB, ↓vl_ic_geF, ↓vl_if_geF, ↓vl_ic_geB, ↓vl_if_geB, ↓vl_ic_gtF, ↓vl_if_gtF, ↓vl_ic_gtB, ↓vl_if_gtB, ↓vl_ic_leF, ↓vl_if_leF, ↓vl_ic_leB, ↓vl_if_leB, ↓vl_sw, ↓vl_get, ↓vl_putI, ↓vl_putL, ↓vl_iald, ↓vl_iast, ↓vl_alen, ↓vl_aald, ↓vl_iretI, ↓vl_iretZ, ↓vl_ret, ↓vl_mark, ↓vl_markT, ↓vl_skip, ↓vl_st0, ↓vl_vi0, ↓vl_st1, ↓vl_vi1, ↓vl_st2, ↓vl_vi2, ↓vl_st3, ↓vl_vi3, ↓vl_st4, ↓vl_vi4, ↓vl_st5, ↓vl_vi5, ↓vl_st6, ↓vl_vi6, ↓vl_min, ↓vl_max, ↓vl_cpy, ↓vk_kvs, ↓vk_kvn, ↓vk_gf0, ↓vk_gv0, ↓vk_gv1, ↓vk_gv2, ↓vk_pf, ↓vk_ar, ↓vk_arr, bc_lay, bc_fn, bc_mk, bc_cs, bc_cat, bc_nl, bc_nth, bc_en, bc_sw, true_and, and_true, ↓reduceIte, reduceCtorEq, Nat.reduceEqDiff, Nat.reduceLeDiff, Nat.reduceAdd, Nat.le_refl, Nat.zero_le, Int.cast_ofNat_Int, Int.reduceEq, eq_self, true_implies, false_implies, not_true_eq_false, not_false_eq_true, bc_vr, Int.reduceToNat, Int.toNat_natCast, Int.reduceLE, Int.reduceLT, Int.reduceNeg, true_or, or_true, forall_const, Int.reduceAdd]
  refine c6_vat hR.2.2.1 hW ⟨by omega, by omega⟩ hR.2.2.2.1 (fun h1 x y => ?_)
  simp -implicitDefEqProofs only [↓vl_iconst, ↓vl_bipush, ↓vl_sipush, ↓vl_lconst, ↓vl_ldc, ↓vl_ldcw, ↓vl_ldc2, ↓vl_iload0, ↓vl_aload0, ↓vl_istore0, ↓vl_iinc0, ↓vl_iload1, ↓vl_aload1, ↓vl_istore1, ↓vl_iinc1, ↓vl_iload2, ↓vl_aload2, ↓vl_istore2, ↓vl_iinc2, ↓vl_iload3, ↓vl_aload3, ↓vl_istore3, ↓vl_iinc3, ↓vl_iload4, ↓vl_istore4, ↓vl_iinc4, ↓vl_iload5, ↓vl_istore5, ↓vl_iinc5, ↓vl_iload6, ↓vl_istore6, ↓vl_iinc6, ↓vl_iload7, ↓vl_istore7, ↓vl_iinc7, ↓vl_lload5, ↓vl_lstore5, ↓vl_iadd, ↓vl_isub, ↓vl_imul, ↓vl_iand, ↓vl_ior, ↓vl_ixor, ↓vl_ishl, ↓vl_ishr, ↓vl_iushr, ↓vl_idiv, ↓vl_irem, ↓vl_ladd, ↓vl_lsub, ↓vl_lmul, ↓vl_lcmp, ↓vl_i2l, ↓vl_dup, ↓vl_dup2, ↓vl_gotoF, ↓vl_gotoB, ↓vl_nnF, ↓vl_ic_eqF, ↓vl_if_eqF, ↓vl_ic_eqB, ↓vl_if_eqB, ↓vl_ic_neF, ↓vl_if_neF, ↓vl_ic_neB, ↓vl_if_neB, ↓vl_ic_ltF, ↓vl_if_ltF, ↓vl_ic_ltB, ↓vl_if_ltB, ↓vl_ic_geF, ↓vl_if_geF, ↓vl_ic_geB, ↓vl_if_geB, ↓vl_ic_gtF, ↓vl_if_gtF, ↓vl_ic_gtB, ↓vl_if_gtB, ↓vl_ic_leF, ↓vl_if_leF, ↓vl_ic_leB, ↓vl_if_leB, ↓vl_sw, ↓vl_get, ↓vl_putI, ↓vl_putL, ↓vl_iald, ↓vl_iast, ↓vl_alen, ↓vl_aald, ↓vl_iretI, ↓vl_iretZ, ↓vl_ret, ↓vl_mark, ↓vl_markT, ↓vl_skip, ↓vl_st0, ↓vl_vi0, ↓vl_st1, ↓vl_vi1, ↓vl_st2, ↓vl_vi2, ↓vl_st3, ↓vl_vi3, ↓vl_st4, ↓vl_vi4, ↓vl_st5, ↓vl_vi5, ↓vl_st6, ↓vl_vi6, ↓vl_min, ↓vl_max, ↓vl_cpy, ↓vk_kvs, ↓vk_kvn, ↓vk_gf0, ↓vk_gv0, ↓vk_gv1, ↓vk_gv2, ↓vk_pf, ↓vk_ar, ↓vk_arr, bc_lay, bc_fn, bc_mk, bc_cs, bc_cat, bc_nl, bc_nth, bc_en, bc_sw, true_and, and_true, ↓reduceIte, reduceCtorEq, Nat.reduceEqDiff, Nat.reduceLeDiff, Nat.reduceAdd, Nat.le_refl, Nat.zero_le, Int.cast_ofNat_Int, Int.reduceEq, eq_self, true_implies, false_implies, not_true_eq_false, not_false_eq_true, bc_vr, Int.reduceToNat, Int.toNat_natCast, Int.reduceLE, Int.reduceLT, Int.reduceNeg, true_or, or_true, forall_const, Int.reduceAdd]
  refine l6_best hW (h0 := h) (fun h' x e => kk h' (pd_RC_c hR x e) (pd_gC_c x)) (D 0).toNat 0 0 h1 (by omega) (pd_C_fr hR.2.2.1 (fun j a b => x j (by omega))) y x ⟨by omega, ⟨Int.le_refl _, fun _ => Int.le_refl _⟩, fun y hy => by omega⟩ _ _
end Best
