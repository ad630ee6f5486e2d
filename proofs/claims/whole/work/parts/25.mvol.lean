/-! the reference: laysVolumes -/
def pd_fl (L0 L1 : Nat → Int) : Nat → Int
  | 0 => if pd_t6 L1 > pd_t6 L0 then pd_t6 L1 else pd_t6 L0
  | f + 1 => if L1 f + L0 f > pd_fl L0 L1 f then L1 f + L0 f else pd_fl L0 L1 f
theorem pd_fl_le {L0 L1 : Nat → Int} {x : Int} : ∀ n, pd_fl L0 L1 n ≤ x ↔ pd_t6 L0 ≤ x ∧ pd_t6 L1 ≤ x ∧ ∀ f, f < n → L0 f + L1 f ≤ x := by
  intro n
  induction n with
  | zero =>
    rw [pd_fl]
    constructor
    · intro h; split at h <;> exact ⟨by omega, by omega, fun f hf => by omega⟩
    · intro h; split <;> omega
  | succ n ih =>
    rw [pd_fl]
    constructor
    · intro h
      have h2 : pd_fl L0 L1 n ≤ x := by split at h <;> omega
      obtain ⟨a, b, c⟩ := ih.mp h2
      refine ⟨a, b, fun f hf => ?_⟩
      by_cases e : f = n
      · subst e; split at h <;> omega
      · exact c f (by omega)
    · intro h
      have := ih.mpr ⟨h.1, h.2.1, fun f hf => h.2.2 f (by omega)⟩
      have := h.2.2 n (by omega)
      split <;> omega
/-- the four rows of sums -/
def pd_MG (L0 L1 H0 H1 : Nat → Int) (h : bc_AH) : Prop := ∀ f : Nat, f < 6 → h 114 f = L0 f ∧ h 112 f = L1 f ∧ h 115 f = H0 f ∧ h 113 f = H1 f
section MVol
variable {d : Nat} {h : bc_AH} {post : Option bc_AV → bc_AH → Prop} {D : Nat → Int}
variable {L0 L1 H0 H1 : Nat → Int}
-- the last loop, from behind: 'may' is on the stack
theorem l7_vol_362 {i : Nat} {x : Int} (k : bc_AT (d + 1) 113 post 225 [some (.inr (.inr 104)), none, some (.inl (pd_t6 H1)), some (.inl (pd_t6 H0)), some (.inl x), some (.inl ((i : Int) + 1)), none, none] [] h) : bc_AT (d + 1) 113 post 362 [some (.inr (.inr 104)), none, some (.inl (pd_t6 H1)), some (.inl (pd_t6 H0)), none, some (.inl (i : Int)), none, none] [.inl x] h := by
  refine at_X7_laysVolumes_362 ?_
  simp only [ks_X7_laysVolumes_362, ↓vl_iconst, ↓vl_bipush, ↓vl_sipush, ↓vl_lconst, ↓vl_ldc, ↓vl_ldcw, ↓vl_ldc2, ↓vl_iload0, ↓vl_aload0, ↓vl_istore0, ↓vl_iinc0, ↓vl_iload1, ↓vl_aload1, ↓vl_istore1, ↓vl_iinc1, ↓vl_iload2, ↓vl_aload2, ↓vl_istore2, ↓vl_iinc2, ↓vl_iload3, ↓vl_aload3, ↓vl_istore3, ↓vl_iinc3, ↓vl_iload4, ↓vl_istore4, ↓vl_iinc4, ↓vl_iload5, ↓vl_istore5, ↓vl_iinc5, ↓vl_iload6, ↓vl_istore6, ↓vl_iinc6, ↓vl_iload7, ↓vl_istore7, ↓vl_iinc7, ↓vl_lload5, ↓vl_lstore5, ↓vl_iadd, ↓vl_isub, ↓vl_imul, ↓vl_iand, ↓vl_ior, ↓vl_ixor, ↓vl_ishl, ↓vl_ishr, ↓vl_iushr, ↓vl_idiv, ↓vl_irem, ↓vl_ladd, ↓vl_lsub, ↓vl_lmul, ↓vl_lcmp, ↓vl_i2l, ↓vl_dup, ↓vl_dup2, ↓vl_gotoF, ↓vl_gotoB, ↓vl_nnF, ↓vl_ic_eqF, ↓vl_if_eqF, ↓vl_ic_eqB, ↓vl_if_eqB, ↓vl_ic_neF, ↓vl_if_neF, ↓vl_ic_neB, ↓vl_if_neB, ↓vl_ic_ltF, ↓vl_if_ltF, ↓vl_ic_ltB, ↓vl_if_ltB, ↓vl_ic_geF, ↓vl_if_geF, ↓vl_ic_geB, ↓vl_if_geB, ↓vl_ic_gtF, ↓vl_if_gtF, ↓vl_ic_gtB, ↓vl_if_gtB, ↓vl_ic_leF, ↓vl_if_leF, ↓vl_ic_leB, ↓vl_if_leB, ↓vl_sw, ↓vl_get, ↓vl_putI, ↓vl_putL, ↓vl_iald, ↓vl_iast, ↓vl_alen, ↓vl_aald, ↓vl_iretI, ↓vl_iretZ, ↓vl_ret, ↓vl_mark, ↓vl_markT, ↓vl_skip, ↓vl_st0, ↓vl_vi0, ↓vl_st1, ↓vl_vi1, ↓vl_st2, ↓vl_vi2, ↓vl_st3, ↓vl_vi3, ↓vl_st4, ↓vl_vi4, ↓vl_st5, ↓vl_vi5, ↓vl_st6, ↓vl_vi6, ↓vl_min, ↓vl_max, ↓vl_cpy, ↓vk_kvs, ↓vk_kvn, ↓vk_gf0, ↓vk_gv0, ↓vk_gv1, ↓vk_gv2, ↓vk_pf, ↓vk_ar, ↓vk_arr, bc_lay, bc_fn, bc_mk, bc_cs, bc_cat, bc_nl, bc_nth, bc_en, bc_sw, true_and, and_true, ↓reduceIte, reduceCtorEq, Nat.reduceEqDiff, Nat.reduceLeDiff, Nat.reduceAdd, Nat.le_refl, Nat.zero_le, Int.cast_ofNat_Int, Int.reduceEq, eq_self, true_implies, false_implies, not_true_eq_false, not_false_eq_true, bc_vr, Int.reduceToNat, Int.toNat_natCast, Int.reduceLE, Int.reduceLT, Int.reduceNeg, true_or, or_true, forall_const, Int.reduceAdd]
  exact k
-- the new ceiling is on the stack
theorem l7_vol_311 (hG : pd_MG L0 L1 H0 H1 h) (b0 : pd_bd L0) (b1 : pd_bd L1) (b2 : pd_bd H0) (b3 : pd_bd H1) {i : Nat} (hi : i < 6) {c : Int} (k : bc_AT (d + 1) 113 post 225 [some (.inr (.inr 104)), none, some (.inl (pd_t6 H1)), some (.inl (pd_t6 H0)), some (.inl (if pd_my L0 L1 H0 H1 (i + 1) then 1 else 0)), some (.inl ((i : Int) + 1)), none, none] [] (bc_up h 104 24 c)) : bc_AT (d + 1) 113 post 311 [some (.inr (.inr 104)), none, some (.inl (pd_t6 H1)), some (.inl (pd_t6 H0)), some (.inl (if pd_my L0 L1 H0 H1 i then 1 else 0)), some (.inl (i : Int)), none, none] [.inl c, .inr (.inr 104)] h := by
  have t2 := pd_bd_t6 b2
  have t3 := pd_bd_t6 b3
  have v0 := b0 i hi
  have v1 := b1 i hi
  have v2 := b2 i hi
  have v3 := b3 i hi
  obtain ⟨g1, g2, g3, g4⟩ := hG i hi
  have u1 : bc_up h 104 24 c 114 i = L0 i := by simp [bc_up, g1]
  have u2 : bc_up h 104 24 c 112 i = L1 i := by simp [bc_up, g2]
  have u3 : bc_up h 104 24 c 115 i = H0 i := by simp [bc_up, g3]
  have u4 : bc_up h 104 24 c 113 i = H1 i := by simp [bc_up, g4]
  refine at_X7_laysVolumes_311 ?_
  rw [pd_my] at k
  by_cases hm : pd_my L0 L1 H0 H1 i = true
  · simp only [ks_X7_laysVolumes_311, ks_X7_laysVolumes_362, ↓vl_iconst, ↓vl_bipush, ↓vl_sipush, ↓vl_lconst, ↓vl_ldc, ↓vl_ldcw, ↓vl_ldc2, ↓vl_iload0, ↓vl_aload0, ↓vl_istore0, ↓vl_iinc0, ↓vl_iload1, ↓vl_aload1, ↓vl_istore1, ↓vl_iinc1, ↓vl_iload2, ↓vl_aload2, ↓vl_istore2, ↓vl_iinc2, ↓vl_iload3, ↓vl_aload3, ↓vl_istore3, ↓vl_iinc3, ↓vl_iload4, ↓vl_istore4, ↓vl_iinc4, ↓vl_iload5, ↓vl_istore5, ↓vl_iinc5, ↓vl_iload6, ↓vl_istore6, ↓vl_iinc6, ↓vl_iload7, ↓vl_istore7, ↓vl_iinc7, ↓vl_lload5, ↓vl_lstore5, ↓vl_iadd, ↓vl_isub, ↓vl_imul, ↓vl_iand, ↓vl_ior, ↓vl_ixor, ↓vl_ishl, ↓vl_ishr, ↓vl_iushr, ↓vl_idiv, ↓vl_irem, ↓vl_ladd, ↓vl_lsub, ↓vl_lmul, ↓vl_lcmp, ↓vl_i2l, ↓vl_dup, ↓vl_dup2, ↓vl_gotoF, ↓vl_gotoB, ↓vl_nnF, ↓vl_ic_eqF, ↓vl_if_eqF, ↓vl_ic_eqB, ↓vl_if_eqB, ↓vl_ic_neF, ↓vl_if_neF, ↓vl_ic_neB, ↓vl_if_neB, ↓vl_ic_ltF, ↓vl_if_ltF, ↓vl_ic_ltB, ↓vl_if_ltB, ↓vl_ic_geF, ↓vl_if_geF, ↓vl_ic_geB, ↓vl_if_geB, ↓vl_ic_gtF, ↓vl_if_gtF, ↓vl_ic_gtB, ↓vl_if_gtB, ↓vl_ic_leF, ↓vl_if_leF, ↓vl_ic_leB, ↓vl_if_leB, ↓vl_sw, ↓vl_get, ↓vl_putI, ↓vl_putL, ↓vl_iald, ↓vl_iast, ↓vl_alen, ↓vl_aald, ↓vl_iretI, ↓vl_iretZ, ↓vl_ret, ↓vl_mark, ↓vl_markT, ↓vl_skip, ↓vl_st0, ↓vl_vi0, ↓vl_st1, ↓vl_vi1, ↓vl_st2, ↓vl_vi2, ↓vl_st3, ↓vl_vi3, ↓vl_st4, ↓vl_vi4, ↓vl_st5, ↓vl_vi5, ↓vl_st6, ↓vl_vi6, ↓vl_min, ↓vl_max, ↓vl_cpy, ↓vk_kvs, ↓vk_kvn, ↓vk_gf0, ↓vk_gv0, ↓vk_gv1, ↓vk_gv2, ↓vk_pf, ↓vk_ar, ↓vk_arr, bc_lay, bc_fn, bc_mk, bc_cs, bc_cat, bc_nl, bc_nth, bc_en, bc_sw, true_and, and_true, ↓reduceIte, reduceCtorEq, Nat.reduceEqDiff, Nat.reduceLeDiff, Nat.reduceAdd, Nat.le_refl, Nat.zero_le, Int.cast_ofNat_Int, Int.reduceEq, eq_self, true_implies, false_implies, not_true_eq_false, not_false_eq_true, bc_vr, Int.reduceToNat, Int.toNat_natCast, Int.reduceLE, Int.reduceLT, Int.reduceNeg, true_or, or_true, forall_const, Int.reduceAdd, hm, if_true, u1, u2, u3, u4]
    refine ⟨by omega, by omega, by omega, by omega, ⟨by omega, by omega⟩, ⟨by omega, by omega⟩, fun c1 => ?_, fun c1 => ⟨by omega, by omega, by omega, by omega, ⟨by omega, by omega⟩, ⟨by omega, by omega⟩, fun c2 => ?_, fun c2 => ?_⟩⟩
    · have e : (pd_my L0 L1 H0 H1 i && (decide (L0 i ≤ pd_t6 H1 - H1 i) && decide (L1 i ≤ pd_t6 H0 - H0 i))) = false := by
        rw [decide_eq_false (by omega)]; simp
      rw [e] at k
      exact l7_vol_362 k
    · have e : (pd_my L0 L1 H0 H1 i && (decide (L0 i ≤ pd_t6 H1 - H1 i) && decide (L1 i ≤ pd_t6 H0 - H0 i))) = false := by
        rw [decide_eq_false (p := L1 i ≤ _) (by omega)]; simp
      rw [e] at k
      exact l7_vol_362 k
    · have e : (pd_my L0 L1 H0 H1 i && (decide (L0 i ≤ pd_t6 H1 - H1 i) && decide (L1 i ≤ pd_t6 H0 - H0 i))) = true := by
        rw [hm, decide_eq_true (p := L0 i ≤ _) (by omega), decide_eq_true (p := L1 i ≤ _) (by omega)]; rfl
      rw [e] at k
      exact l7_vol_362 k
  · have hm' : pd_my L0 L1 H0 H1 i = false := by simpa using hm
    rw [hm', Bool.false_and] at k
    simp only [ks_X7_laysVolumes_311, ks_X7_laysVolumes_362, ↓vl_iconst, ↓vl_bipush, ↓vl_sipush, ↓vl_lconst, ↓vl_ldc, ↓vl_ldcw, ↓vl_ldc2, ↓vl_iload0, ↓vl_aload0, ↓vl_istore0, ↓vl_iinc0, ↓vl_iload1, ↓vl_aload1, ↓vl_istore1, ↓vl_iinc1, ↓vl_iload2, ↓vl_aload2, ↓vl_istore2, ↓vl_iinc2, ↓vl_iload3, ↓vl_aload3, ↓vl_istore3, ↓vl_iinc3, ↓vl_iload4, ↓vl_istore4, ↓vl_iinc4, ↓vl_iload5, ↓vl_istore5, ↓vl_iinc5, ↓vl_iload6, ↓vl_istore6, ↓vl_iinc6, ↓vl_iload7, ↓vl_istore7, ↓vl_iinc7, ↓vl_lload5, ↓vl_lstore5, ↓vl_iadd, ↓vl_isub, ↓vl_imul, ↓vl_iand, ↓vl_ior, ↓vl_ixor, ↓vl_ishl, ↓vl_ishr, ↓vl_iushr, ↓vl_idiv, ↓vl_irem, ↓vl_ladd, ↓vl_lsub, ↓vl_lmul, ↓vl_lcmp, ↓vl_i2l, ↓vl_dup, ↓vl_dup2, ↓vl_gotoF, ↓vl_gotoB, ↓vl_nnF, ↓vl_ic_eqF, ↓vl_if_eqF, ↓vl_ic_eqB, ↓vl_if_eqB, ↓vl_ic_neF, ↓vl_if_neF, ↓vl_ic_neB, ↓vl_if_neB, ↓vl_ic_ltF, ↓vl_if_ltF, ↓vl_ic_ltB, ↓vl_if_ltB, ↓vl_ic_geF, ↓vl_if_geF, ↓vl_ic_geB, ↓vl_if_geB, ↓vl_ic_gtF, ↓vl_if_gtF, ↓vl_ic_gtB, ↓vl_if_gtB, ↓vl_ic_leF, ↓vl_if_leF, ↓vl_ic_leB, ↓vl_if_leB, ↓vl_sw, ↓vl_get, ↓vl_putI, ↓vl_putL, ↓vl_iald, ↓vl_iast, ↓vl_alen, ↓vl_aald, ↓vl_iretI, ↓vl_iretZ, ↓vl_ret, ↓vl_mark, ↓vl_markT, ↓vl_skip, ↓vl_st0, ↓vl_vi0, ↓vl_st1, ↓vl_vi1, ↓vl_st2, ↓vl_vi2, ↓vl_st3, ↓vl_vi3, ↓vl_st4, ↓vl_vi4, ↓vl_st5, ↓vl_vi5, ↓vl_st6, ↓vl_vi6, ↓vl_min, ↓vl_max, ↓vl_cpy, ↓vk_kvs, ↓vk_kvn, ↓vk_gf0, ↓vk_gv0, ↓vk_gv1, ↓vk_gv2, ↓vk_pf, ↓vk_ar, ↓vk_arr, bc_lay, bc_fn, bc_mk, bc_cs, bc_cat, bc_nl, bc_nth, bc_en, bc_sw, true_and, and_true, ↓reduceIte, reduceCtorEq, Nat.reduceEqDiff, Nat.reduceLeDiff, Nat.reduceAdd, Nat.le_refl, Nat.zero_le, Int.cast_ofNat_Int, Int.reduceEq, eq_self, true_implies, false_implies, not_true_eq_false, not_false_eq_true, bc_vr, Int.reduceToNat, Int.toNat_natCast, Int.reduceLE, Int.reduceLT, Int.reduceNeg, true_or, or_true, forall_const, Int.reduceAdd, hm', if_false, Bool.false_eq_true]
    exact l7_vol_362 k
end MVol
