section MVol
variable {d : Nat} {h : bc_AH} {post : Option bc_AV → bc_AH → Prop} {D : Nat → Int}
variable {L0 L1 H0 H1 : Nat → Int}
set_option maxRecDepth 20000 in
theorem l7_vol_225 (b0 : pd_bd L0) (b1 : pd_bd L1) (b2 : pd_bd H0) (b3 : pd_bd H1) {h0 : bc_AH}
    (kk : ∀ (h' : bc_AH) (b : Bool), b = (pd_my L0 L1 H0 H1 6 && decide (pd_fl L0 L1 6 ≤ pd_ce H0 H1 6)) → h' 104 23 = pd_fl L0 L1 6 → h' 104 24 = pd_ce H0 H1 6 → (∀ j : Nat, j ≠ 23 → j ≠ 24 → h' 104 j = h0 104 j) → (∀ c : Nat, c ≠ 104 → (c < 112 ∨ 115 < c) → h' c = h0 c) → post (some (.inl (if b then 1 else 0))) h') :
    ∀ (n i : Nat) (h : bc_AH), i + n = 6 → pd_MG L0 L1 H0 H1 h → h 104 23 = pd_fl L0 L1 i → h 104 24 = pd_ce H0 H1 i → (∀ j : Nat, j ≠ 23 → j ≠ 24 → h 104 j = h0 104 j) → (∀ c : Nat, c ≠ 104 → (c < 112 ∨ 115 < c) → h c = h0 c) → bc_AT (d + 1) 113 post 225 [some (.inr (.inr 104)), none, some (.inl (pd_t6 H1)), some (.inl (pd_t6 H0)), some (.inl (if pd_my L0 L1 H0 H1 i then 1 else 0)), some (.inl (i : Int)), none, none] [] h := by
  have t2 := pd_bd_t6 b2
  have t3 := pd_bd_t6 b3
  intro n
  induction n with
  | zero =>
    intro i h hi hG h23 h24 hf1 hf2
    have e : i = 6 := by omega
    subst e
    have := pd_fl_bd b0 b1 6 (by omega)
    have := pd_ce_bd b2 b3 6 (by omega)
    refine at_X7_laysVolumes_225 ?_
    simp only [ks_X7_laysVolumes_225, ks_X7_laysVolumes_289, ks_X7_laysVolumes_311, ks_X7_laysVolumes_362, ↓vl_iconst, ↓vl_bipush, ↓vl_sipush, ↓vl_lconst, ↓vl_ldc, ↓vl_ldcw, ↓vl_ldc2, ↓vl_iload0, ↓vl_aload0, ↓vl_istore0, ↓vl_iinc0, ↓vl_iload1, ↓vl_aload1, ↓vl_istore1, ↓vl_iinc1, ↓vl_iload2, ↓vl_aload2, ↓vl_istore2, ↓vl_iinc2, ↓vl_iload3, ↓vl_aload3, ↓vl_istore3, ↓vl_iinc3, ↓vl_iload4, ↓vl_istore4, ↓vl_iinc4, ↓vl_iload5, ↓vl_istore5, ↓vl_iinc5, ↓vl_iload6, ↓vl_istore6, ↓vl_iinc6, ↓vl_iload7, ↓vl_istore7, ↓vl_iinc7, ↓vl_lload5, ↓vl_lstore5, ↓vl_iadd, ↓vl_isub, ↓vl_imul, ↓vl_iand, ↓vl_ior, ↓vl_ixor, ↓vl_ishl, ↓vl_ishr, ↓vl_iushr, ↓vl_idiv, ↓vl_irem, ↓vl_ladd, ↓vl_lsub, ↓vl_lmul, ↓vl_lcmp, ↓vl_i2l, ↓vl_dup, ↓vl_dup2, ↓vl_gotoF, ↓vl_gotoB, ↓vl_nnF, ↓vl_ic_eqF, ↓vl_if_eqF, ↓vl_ic_eqB, ↓vl_if_eqB, ↓vl_ic_neF, ↓vl_if_neF, ↓vl_ic_neB, ↓vl_if_neB, ↓vl_ic_ltF, ↓vl_if_ltF, ↓vl_ic_ltB, ↓vl_if_ltB, ↓vl_ic_geF, ↓vl_if_geF, ↓vl_ic_geB, ↓vl_if_geB, ↓vl_ic_gtF, ↓vl_if_gtF, ↓vl_ic_gtB, ↓vl_if_gtB, ↓vl_ic_leF, ↓vl_if_leF, ↓vl_ic_leB, ↓vl_if_leB, ↓vl_sw, ↓vl_get, ↓vl_putI, ↓vl_putL, ↓vl_iald, ↓vl_iast, ↓vl_alen, ↓vl_aald, ↓vl_iretI, ↓vl_iretZ, ↓vl_ret, ↓vl_mark, ↓vl_markT, ↓vl_skip, ↓vl_st0, ↓vl_vi0, ↓vl_st1, ↓vl_vi1, ↓vl_st2, ↓vl_vi2, ↓vl_st3, ↓vl_vi3, ↓vl_st4, ↓vl_vi4, ↓vl_st5, ↓vl_vi5, ↓vl_st6, ↓vl_vi6, ↓vl_min, ↓vl_max, ↓vl_cpy, ↓vk_kvs, ↓vk_kvn, ↓vk_gf0, ↓vk_gv0, ↓vk_gv1, ↓vk_gv2, ↓vk_pf, ↓vk_ar, ↓vk_arr, bc_lay, bc_fn, bc_mk, bc_cs, bc_cat, bc_nl, bc_nth, bc_en, bc_sw, true_and, and_true, ↓reduceIte, reduceCtorEq, Nat.reduceEqDiff, Nat.reduceLeDiff, Nat.reduceAdd, Nat.le_refl, Nat.zero_le, Int.cast_ofNat_Int, Int.reduceEq, eq_self, true_implies, false_implies, not_true_eq_false, not_false_eq_true, bc_vr, Int.reduceToNat, Int.toNat_natCast, Int.reduceLE, Int.reduceLT, Int.reduceNeg, true_or, or_true, forall_const, Int.reduceAdd]
    exact l7_vol_370 b0 b1 b2 b3 h23 h24 (kk h _ rfl h23 h24 hf1 hf2)
  | succ n ih =>
    intro i h hi hG h23 h24 hf1 hf2
    obtain ⟨g1, g2, g3, g4⟩ := hG i (by omega)
    have v0 := b0 i (by omega)
    have v1 := b1 i (by omega)
    have v2 := b2 i (by omega)
    have v3 := b3 i (by omega)
    have := pd_fl_bd b0 b1 i (by omega)
    have := pd_ce_bd b2 b3 i (by omega)
    have e1 : ((i + 1 : Nat) : Int) = (i : Int) + 1 := by omega
    have next := ih (i + 1) (bc_up (bc_up h 104 23 (pd_fl L0 L1 (i + 1))) 104 24 (pd_ce H0 H1 (i + 1))) (by omega) (fun f hf => by simp [bc_up]; exact hG f hf) (by simp [bc_up]) (by simp [bc_up]) (fun j a b => by simp [bc_up, a, b]; exact hf1 j a b) (fun c a b => by funext q; simp [bc_up, a]; rw [hf2 c a b])
    rw [e1] at next
    refine at_X7_laysVolumes_225 ?_
    simp only [ks_X7_laysVolumes_225, ks_X7_laysVolumes_289, ↓vl_iconst, ↓vl_bipush, ↓vl_sipush, ↓vl_lconst, ↓vl_ldc, ↓vl_ldcw, ↓vl_ldc2, ↓vl_iload0, ↓vl_aload0, ↓vl_istore0, ↓vl_iinc0, ↓vl_iload1, ↓vl_aload1, ↓vl_istore1, ↓vl_iinc1, ↓vl_iload2, ↓vl_aload2, ↓vl_istore2, ↓vl_iinc2, ↓vl_iload3, ↓vl_aload3, ↓vl_istore3, ↓vl_iinc3, ↓vl_iload4, ↓vl_istore4, ↓vl_iinc4, ↓vl_iload5, ↓vl_istore5, ↓vl_iinc5, ↓vl_iload6, ↓vl_istore6, ↓vl_iinc6, ↓vl_iload7, ↓vl_istore7, ↓vl_iinc7, ↓vl_lload5, ↓vl_lstore5, ↓vl_iadd, ↓vl_isub, ↓vl_imul, ↓vl_iand, ↓vl_ior, ↓vl_ixor, ↓vl_ishl, ↓vl_ishr, ↓vl_iushr, ↓vl_idiv, ↓vl_irem, ↓vl_ladd, ↓vl_lsub, ↓vl_lmul, ↓vl_lcmp, ↓vl_i2l, ↓vl_dup, ↓vl_dup2, ↓vl_gotoF, ↓vl_gotoB, ↓vl_nnF, ↓vl_ic_eqF, ↓vl_if_eqF, ↓vl_ic_eqB, ↓vl_if_eqB, ↓vl_ic_neF, ↓vl_if_neF, ↓vl_ic_neB, ↓vl_if_neB, ↓vl_ic_ltF, ↓vl_if_ltF, ↓vl_ic_ltB, ↓vl_if_ltB, ↓vl_ic_geF, ↓vl_if_geF, ↓vl_ic_geB, ↓vl_if_geB, ↓vl_ic_gtF, ↓vl_if_gtF, ↓vl_ic_gtB, ↓vl_if_gtB, ↓vl_ic_leF, ↓vl_if_leF, ↓vl_ic_leB, ↓vl_if_leB, ↓vl_sw, ↓vl_get, ↓vl_putI, ↓vl_putL, ↓vl_iald, ↓vl_iast, ↓vl_alen, ↓vl_aald, ↓vl_iretI, ↓vl_iretZ, ↓vl_ret, ↓vl_mark, ↓vl_markT, ↓vl_skip, ↓vl_st0, ↓vl_vi0, ↓vl_st1, ↓vl_vi1, ↓vl_st2, ↓vl_vi2, ↓vl_st3, ↓vl_vi3, ↓vl_st4, ↓vl_vi4, ↓vl_st5, ↓vl_vi5, ↓vl_st6, ↓vl_vi6, ↓vl_min, ↓vl_max, ↓vl_cpy, ↓vk_kvs, ↓vk_kvn, ↓vk_gf0, ↓vk_gv0, ↓vk_gv1, ↓vk_gv2, ↓vk_pf, ↓vk_ar, ↓vk_arr, bc_lay, bc_fn, bc_mk, bc_cs, bc_cat, bc_nl, bc_nth, bc_en, bc_sw, true_and, and_true, ↓reduceIte, reduceCtorEq, Nat.reduceEqDiff, Nat.reduceLeDiff, Nat.reduceAdd, Nat.le_refl, Nat.zero_le, Int.cast_ofNat_Int, Int.reduceEq, eq_self, true_implies, false_implies, not_true_eq_false, not_false_eq_true, bc_vr, Int.reduceToNat, Int.toNat_natCast, Int.reduceLE, Int.reduceLT, Int.reduceNeg, true_or, or_true, forall_const, Int.reduceAdd, g1, g2, g3, g4, h23]
    refine ⟨by omega, fun c => absurd c (by omega), fun _ => ⟨by omega, by omega, by omega, by omega, by omega, by omega, by omega, by omega, ⟨by omega, by omega⟩, ⟨by omega, by omega⟩, fun c => ?_, fun c => ?_⟩⟩
    · have e : pd_fl L0 L1 (i + 1) = pd_fl L0 L1 i := by rw [pd_fl, if_neg (by omega)]
      rw [e] at next
      exact l7_vol_289 hG b0 b1 b2 b3 (by omega) h24 next
    · have e : pd_fl L0 L1 (i + 1) = L1 i + L0 i := by rw [pd_fl, if_pos (by omega)]
      rw [e] at next
      exact l7_vol_289 hG b0 b1 b2 b3 (by omega) h24 next
end MVol
