section MRun
variable {d : Nat} {h : bc_AH} {post : Option bc_AV → bc_AH → Prop} {T D : Nat → Int} {n F : Int} {Hs : List (Nat → Int)}
theorem pd_rm_nx {E : Nat → Int} {N i : Nat} (hi : i < N) (hb : bc_bit (pd_cs D) i = true) (h1 : ∀ j : Nat, j < 7 → E j = pd_rm D N i j) (h2 : ∀ x w : Nat, w < 9 → x < 24 → x ≠ i → E (7 + 9 * x + w) = pd_rm D N i (7 + 9 * x + w)) (k0 : E (7 + 9 * i) = pd_rm D N i (7 + 9 * i)) (k1 : E (7 + 9 * i + 1) = pd_ro D i 1) (k2 : E (7 + 9 * i + 2) = pd_ro D i 2) (k3 : E (7 + 9 * i + 3) = pd_rm D N i (7 + 9 * i + 3)) (k4 : E (7 + 9 * i + 4) = pd_rm D N i (7 + 9 * i + 4)) (k5 : E (7 + 9 * i + 5) = pd_ro D i 5) (k6 : E (7 + 9 * i + 6) = pd_rm D N i (7 + 9 * i + 6)) (k7 : E (7 + 9 * i + 7) = pd_ro D i 7) (k8 : E (7 + 9 * i + 8) = pd_rm D N i (7 + 9 * i + 8)) : ∀ j : Nat, j < 223 → E j = pd_rm D N (i + 1) j := by
  have old : ∀ w, w < 9 → w ≠ 8 → pd_rm D N i (7 + 9 * i + w) = D (7 + 9 * i + w) := fun w hw h8 => by
    rw [pd_rm_at hw, if_neg (by omega)]
  have new : ∀ w, w < 9 → pd_rm D N (i + 1) (7 + 9 * i + w) = pd_ro D i w := fun w hw => by
    rw [pd_rm_at hw, if_pos ⟨hb, Or.inr (by omega)⟩]
  refine pd_row_ext (fun j hj => ?_) (fun x w hw hx => ?_)
  · rw [h1 j hj, pd_rm_hd hj, pd_rm_hd hj]
  · by_cases z : x = i
    · subst z
      rw [new w hw]
      have e : w = 0 ∨ w = 1 ∨ w = 2 ∨ w = 3 ∨ w = 4 ∨ w = 5 ∨ w = 6 ∨ w = 7 ∨ w = 8 := by omega
      rcases e with rfl | rfl | rfl | rfl | rfl | rfl | rfl | rfl | rfl
      · have o := old 0 (by omega) (by omega)
        have k0' : E (7 + 9 * x + 0) = pd_rm D N x (7 + 9 * x + 0) := k0
        rw [k0', o]; unfold pd_ro; simp
      · exact k1
      · exact k2
      · rw [k3, old 3 (by omega) (by omega)]; unfold pd_ro; simp
      · rw [k4, old 4 (by omega) (by omega)]; unfold pd_ro; simp
      · exact k5
      · rw [k6, old 6 (by omega) (by omega)]; unfold pd_ro; simp
      · exact k7
      · rw [k8, pd_rm_at (by omega), if_pos ⟨hb, Or.inl ⟨rfl, hi⟩⟩]
    · rw [h2 x w hw hx z, pd_rm_at hw, pd_rm_at hw]
      by_cases c : x < i
      · have c2 : x < i + 1 := by omega
        simp only [c, c2]
      · have c2 : ¬ x < i + 1 := by omega
        simp only [c, c2]
theorem l7_run_208 {i : Nat} (kk : bc_AT (d + 2) 134 post 80 [some (.inr (.inr 104)), some (.inl (pd_cs D)), some (.inl (pd_cv D)), some (.inl ((i + 1 : Nat) : Int)), none] [] h) : bc_AT (d + 2) 134 post 208 [some (.inr (.inr 104)), some (.inl (pd_cs D)), some (.inl (pd_cv D)), some (.inl (i : Int)), none] [] h := by
  have e1 : ((i + 1 : Nat) : Int) = (i : Int) + 1 := by omega
  rw [e1] at kk
  refine at_X7_run_208 ?_
  simp -implicitDefEqProofs only [ks_X7_run_208, ↓vl_iconst, ↓vl_bipush, ↓vl_sipush, ↓vl_lconst, ↓vl_ldc, ↓vl_ldcw, ↓vl_ldc2, ↓vl_iload0, ↓vl_aload0, ↓vl_istore0, ↓vl_iinc0, ↓vl_iload1, ↓vl_aload1, ↓vl_istore1, ↓vl_iinc1, ↓vl_iload2, ↓vl_aload2, ↓vl_istore2, ↓vl_iinc2, ↓vl_iload3, ↓vl_aload3, ↓vl_istore3, ↓vl_iinc3, ↓vl_iload4, ↓vl_istore4, ↓vl_iinc4, ↓vl_iload5, ↓vl_istore5, ↓vl_iinc5, ↓vl_iload6, ↓vl_istore6, ↓vl_iinc6, ↓vl_iload7, ↓vl_istore7, ↓vl_iinc7, ↓vl_lload5, ↓vl_lstore5, ↓vl_iadd, ↓vl_isub, ↓vl_imul, ↓vl_iand, ↓vl_ior, ↓vl_ixor, ↓vl_ishl, ↓vl_ishr, ↓vl_iushr, ↓vl_idiv, ↓vl_irem, ↓vl_ladd, ↓vl_lsub, ↓vl_lmul, ↓vl_lcmp, ↓vl_i2l, ↓vl_dup, ↓vl_dup2, ↓vl_gotoF, ↓vl_gotoB, ↓vl_nnF, ↓vl_ic_eqF, ↓vl_if_eqF, ↓vl_ic_eqB, ↓vl_if_eqB, ↓vl_ic_neF, ↓vl_if_neF, ↓vl_ic_neB, ↓vl_if_neB, ↓vl_ic_ltF, ↓vl_if_ltF, ↓vl_ic_ltB, ↓vl_if_ltB, ↓vl_ic_geF, ↓vl_if_geF, ↓vl_ic_geB, ↓vl_if_geB, ↓vl_ic_gtF, ↓vl_if_gtF, ↓vl_ic_gtB, ↓vl_if_gtB, ↓vl_ic_leF, ↓vl_if_leF, ↓vl_ic_leB, ↓vl_if_leB, ↓vl_sw, ↓vl_get, ↓vl_putI, ↓vl_putL, ↓vl_iald, ↓vl_iast, ↓vl_alen, ↓vl_aald, ↓vl_iretI, ↓vl_iretZ, ↓vl_ret, ↓vl_mark, ↓vl_markT, ↓vl_skip, ↓vl_st0, ↓vl_vi0, ↓vl_st1, ↓vl_vi1, ↓vl_st2, ↓vl_vi2, ↓vl_st3, ↓vl_vi3, ↓vl_st4, ↓vl_vi4, ↓vl_st5, ↓vl_vi5, ↓vl_st6, ↓vl_vi6, ↓vl_min, ↓vl_max, ↓vl_cpy, ↓vk_kvs, ↓vk_kvn, ↓vk_gf0, ↓vk_gv0, ↓vk_gv1, ↓vk_gv2, ↓vk_pf, ↓vk_ar, ↓vk_arr, bc_lay, bc_fn, bc_mk, bc_cs, bc_cat, bc_nl, bc_nth, bc_en, bc_sw, true_and, and_true, ↓reduceIte, reduceCtorEq, Nat.reduceEqDiff, Nat.reduceLeDiff, Nat.reduceAdd, Nat.le_refl, Nat.zero_le, Int.cast_ofNat_Int, Int.reduceEq, eq_self, true_implies, false_implies, not_true_eq_false, not_false_eq_true, bc_vr, Int.reduceToNat, Int.toNat_natCast, Int.reduceLE, Int.reduceLT, Int.reduceNeg, true_or, or_true, forall_const, Int.reduceAdd]
  exact kk
theorem l7_run_186 {i : Nat} (hi : i < 24) {s : Int} (hs : bc_vr s) (es : h 106 (7 + 9 * i + 1) = s) (k0 : s = 0 → bc_AT (d + 2) 134 post 208 [some (.inr (.inr 104)), some (.inl (pd_cs D)), some (.inl (pd_cv D)), some (.inl (i : Int)), none] [] (bc_up h 106 (7 + 9 * i + 5) 2)) (k1 : ¬ s = 0 → bc_AT (d + 2) 134 post 208 [some (.inr (.inr 104)), some (.inl (pd_cs D)), some (.inl (pd_cv D)), some (.inl (i : Int)), none] [] h) : bc_AT (d + 2) 134 post 186 [some (.inr (.inr 104)), some (.inl (pd_cs D)), some (.inl (pd_cv D)), some (.inl (i : Int)), some (.inl (7 + 9 * (i : Int)))] [] h := by
  have e1 : (7 + 9 * (i : Int) + 1).toNat = 7 + 9 * i + 1 := by omega
  have e5 : (7 + 9 * (i : Int) + 5).toNat = 7 + 9 * i + 5 := by omega
  refine at_X7_run_186 ?_
  simp -implicitDefEqProofs only [ks_X7_run_186, ks_X7_run_208, ↓vl_iconst, ↓vl_bipush, ↓vl_sipush, ↓vl_lconst, ↓vl_ldc, ↓vl_ldcw, ↓vl_ldc2, ↓vl_iload0, ↓vl_aload0, ↓vl_istore0, ↓vl_iinc0, ↓vl_iload1, ↓vl_aload1, ↓vl_istore1, ↓vl_iinc1, ↓vl_iload2, ↓vl_aload2, ↓vl_istore2, ↓vl_iinc2, ↓vl_iload3, ↓vl_aload3, ↓vl_istore3, ↓vl_iinc3, ↓vl_iload4, ↓vl_istore4, ↓vl_iinc4, ↓vl_iload5, ↓vl_istore5, ↓vl_iinc5, ↓vl_iload6, ↓vl_istore6, ↓vl_iinc6, ↓vl_iload7, ↓vl_istore7, ↓vl_iinc7, ↓vl_lload5, ↓vl_lstore5, ↓vl_iadd, ↓vl_isub, ↓vl_imul, ↓vl_iand, ↓vl_ior, ↓vl_ixor, ↓vl_ishl, ↓vl_ishr, ↓vl_iushr, ↓vl_idiv, ↓vl_irem, ↓vl_ladd, ↓vl_lsub, ↓vl_lmul, ↓vl_lcmp, ↓vl_i2l, ↓vl_dup, ↓vl_dup2, ↓vl_gotoF, ↓vl_gotoB, ↓vl_nnF, ↓vl_ic_eqF, ↓vl_if_eqF, ↓vl_ic_eqB, ↓vl_if_eqB, ↓vl_ic_neF, ↓vl_if_neF, ↓vl_ic_neB, ↓vl_if_neB, ↓vl_ic_ltF, ↓vl_if_ltF, ↓vl_ic_ltB, ↓vl_if_ltB, ↓vl_ic_geF, ↓vl_if_geF, ↓vl_ic_geB, ↓vl_if_geB, ↓vl_ic_gtF, ↓vl_if_gtF, ↓vl_ic_gtB, ↓vl_if_gtB, ↓vl_ic_leF, ↓vl_if_leF, ↓vl_ic_leB, ↓vl_if_leB, ↓vl_sw, ↓vl_get, ↓vl_putI, ↓vl_putL, ↓vl_iald, ↓vl_iast, ↓vl_alen, ↓vl_aald, ↓vl_iretI, ↓vl_iretZ, ↓vl_ret, ↓vl_mark, ↓vl_markT, ↓vl_skip, ↓vl_st0, ↓vl_vi0, ↓vl_st1, ↓vl_vi1, ↓vl_st2, ↓vl_vi2, ↓vl_st3, ↓vl_vi3, ↓vl_st4, ↓vl_vi4, ↓vl_st5, ↓vl_vi5, ↓vl_st6, ↓vl_vi6, ↓vl_min, ↓vl_max, ↓vl_cpy, ↓vk_kvs, ↓vk_kvn, ↓vk_gf0, ↓vk_gv0, ↓vk_gv1, ↓vk_gv2, ↓vk_pf, ↓vk_ar, ↓vk_arr, bc_lay, bc_fn, bc_mk, bc_cs, bc_cat, bc_nl, bc_nth, bc_en, bc_sw, true_and, and_true, ↓reduceIte, reduceCtorEq, Nat.reduceEqDiff, Nat.reduceLeDiff, Nat.reduceAdd, Nat.le_refl, Nat.zero_le, Int.cast_ofNat_Int, Int.reduceEq, eq_self, true_implies, false_implies, not_true_eq_false, not_false_eq_true, bc_vr, Int.reduceToNat, Int.toNat_natCast, Int.reduceLE, Int.reduceLT, Int.reduceNeg, true_or, or_true, forall_const, Int.reduceAdd, e1, e5, es]
  refine ⟨by omega, by omega, hs, fun z => k1 z, fun z => ⟨by omega, by omega, k0 (Classical.not_not.mp z)⟩⟩
set_option maxRecDepth 20000 in
theorem l7_run_80 (hW : pd_W D) {h0 : bc_AH} (h116 : ∀ y : Nat, y < 24 → h0 116 y = pd_fill D y) (kk : ∀ h', pd_M 106 (pd_rm D (D 0).toNat (D 0).toNat) h' → (∀ c : Nat, c ≠ 106 → h' c = h0 c) → bc_AT (d + 2) 134 post 214 [some (.inr (.inr 104)), some (.inl (pd_cs D)), some (.inl (pd_cv D)), none, none] [] h') : ∀ (m i : Nat) (h : bc_AH), m + i = (D 0).toNat → pd_M 106 (pd_rm D (D 0).toNat i) h → (∀ c : Nat, c ≠ 106 → h c = h0 c) → bc_AT (d + 2) 134 post 80 [some (.inr (.inr 104)), some (.inl (pd_cs D)), some (.inl (pd_cv D)), some (.inl (i : Int)), none] [] h := by
  have hV := hW.1
  have v0 := hV.1
  intro m
  induction m with
  | zero =>
    intro i h hi hM hf
    have e : i = (D 0).toNat := by omega
    have e0 : h 106 0 = D 0 := by rw [hM 0 (by omega)]; exact pd_rm_hd (by omega)
    refine at_X7_run_80 ?_
    simp -implicitDefEqProofs only [ks_X7_run_80, ks_X7_run_186, ks_X7_run_208, ↓vl_iconst, ↓vl_bipush, ↓vl_sipush, ↓vl_lconst, ↓vl_ldc, ↓vl_ldcw, ↓vl_ldc2, ↓vl_iload0, ↓vl_aload0, ↓vl_istore0, ↓vl_iinc0, ↓vl_iload1, ↓vl_aload1, ↓vl_istore1, ↓vl_iinc1, ↓vl_iload2, ↓vl_aload2, ↓vl_istore2, ↓vl_iinc2, ↓vl_iload3, ↓vl_aload3, ↓vl_istore3, ↓vl_iinc3, ↓vl_iload4, ↓vl_istore4, ↓vl_iinc4, ↓vl_iload5, ↓vl_istore5, ↓vl_iinc5, ↓vl_iload6, ↓vl_istore6, ↓vl_iinc6, ↓vl_iload7, ↓vl_istore7, ↓vl_iinc7, ↓vl_lload5, ↓vl_lstore5, ↓vl_iadd, ↓vl_isub, ↓vl_imul, ↓vl_iand, ↓vl_ior, ↓vl_ixor, ↓vl_ishl, ↓vl_ishr, ↓vl_iushr, ↓vl_idiv, ↓vl_irem, ↓vl_ladd, ↓vl_lsub, ↓vl_lmul, ↓vl_lcmp, ↓vl_i2l, ↓vl_dup, ↓vl_dup2, ↓vl_gotoF, ↓vl_gotoB, ↓vl_nnF, ↓vl_ic_eqF, ↓vl_if_eqF, ↓vl_ic_eqB, ↓vl_if_eqB, ↓vl_ic_neF, ↓vl_if_neF, ↓vl_ic_neB, ↓vl_if_neB, ↓vl_ic_ltF, ↓vl_if_ltF, ↓vl_ic_ltB, ↓vl_if_ltB, ↓vl_ic_geF, ↓vl_if_geF, ↓vl_ic_geB, ↓vl_if_geB, ↓vl_ic_gtF, ↓vl_if_gtF, ↓vl_ic_gtB, ↓vl_if_gtB, ↓vl_ic_leF, ↓vl_if_leF, ↓vl_ic_leB, ↓vl_if_leB, ↓vl_sw, ↓vl_get, ↓vl_putI, ↓vl_putL, ↓vl_iald, ↓vl_iast, ↓vl_alen, ↓vl_aald, ↓vl_iretI, ↓vl_iretZ, ↓vl_ret, ↓vl_mark, ↓vl_markT, ↓vl_skip, ↓vl_st0, ↓vl_vi0, ↓vl_st1, ↓vl_vi1, ↓vl_st2, ↓vl_vi2, ↓vl_st3, ↓vl_vi3, ↓vl_st4, ↓vl_vi4, ↓vl_st5, ↓vl_vi5, ↓vl_st6, ↓vl_vi6, ↓vl_min, ↓vl_max, ↓vl_cpy, ↓vk_kvs, ↓vk_kvn, ↓vk_gf0, ↓vk_gv0, ↓vk_gv1, ↓vk_gv2, ↓vk_pf, ↓vk_ar, ↓vk_arr, bc_lay, bc_fn, bc_mk, bc_cs, bc_cat, bc_nl, bc_nth, bc_en, bc_sw, true_and, and_true, ↓reduceIte, reduceCtorEq, Nat.reduceEqDiff, Nat.reduceLeDiff, Nat.reduceAdd, Nat.le_refl, Nat.zero_le, Int.cast_ofNat_Int, Int.reduceEq, eq_self, true_implies, false_implies, not_true_eq_false, not_false_eq_true, bc_vr, Int.reduceToNat, Int.toNat_natCast, Int.reduceLE, Int.reduceLT, Int.reduceNeg, true_or, or_true, forall_const, Int.reduceAdd, e0]
    refine ⟨⟨by omega, by omega⟩, ⟨by omega, by omega⟩, fun _ => ?_, fun c => absurd c (by omega)⟩
    rw [e] at hM
    exact kk h hM hf
  | succ m ih =>
    intro i h hi hM hf
    have e0 : h 106 0 = D 0 := by rw [hM 0 (by omega)]; exact pd_rm_hd (by omega)
    have nx := ih (i + 1)
    have e1 : (7 + 9 * (i : Int) + 1).toNat = 7 + 9 * i + 1 := by omega
    have e2 : (7 + 9 * (i : Int) + 2).toNat = 7 + 9 * i + 2 := by omega
    have e7 : (7 + 9 * (i : Int) + 7).toNat = 7 + 9 * i + 7 := by omega
    have old : ∀ w, w < 9 → w ≠ 8 → h 106 (7 + 9 * i + w) = D (7 + 9 * i + w) := fun w hw h8 => by
      rw [hM _ (by omega), pd_rm_at hw, if_neg (by omega)]
    have g1 : h 106 (7 + 9 * i + 1) = pd_sz D i := old 1 (by omega) (by omega)
    have g2 := old 2 (by omega) (by omega)
    have g5 := old 5 (by omega) (by omega)
    have g7 := old 7 (by omega) (by omega)
    have f116 : h 116 i = pd_fill D i := by rw [hf 116 (by omega)]; exact h116 i (by omega)
    obtain ⟨-, o1, o2, -, -, o5, -⟩ := hV.2.2 i (by omega)
    have esz : pd_sz D i = D (7 + 9 * i + 1) := rfl
    refine at_X7_run_80 ?_
    simp -implicitDefEqProofs only [ks_X7_run_80, ks_X7_run_186, ks_X7_run_208, ↓vl_iconst, ↓vl_bipush, ↓vl_sipush, ↓vl_lconst, ↓vl_ldc, ↓vl_ldcw, ↓vl_ldc2, ↓vl_iload0, ↓vl_aload0, ↓vl_istore0, ↓vl_iinc0, ↓vl_iload1, ↓vl_aload1, ↓vl_istore1, ↓vl_iinc1, ↓vl_iload2, ↓vl_aload2, ↓vl_istore2, ↓vl_iinc2, ↓vl_iload3, ↓vl_aload3, ↓vl_istore3, ↓vl_iinc3, ↓vl_iload4, ↓vl_istore4, ↓vl_iinc4, ↓vl_iload5, ↓vl_istore5, ↓vl_iinc5, ↓vl_iload6, ↓vl_istore6, ↓vl_iinc6, ↓vl_iload7, ↓vl_istore7, ↓vl_iinc7, ↓vl_lload5, ↓vl_lstore5, ↓vl_iadd, ↓vl_isub, ↓vl_imul, ↓vl_iand, ↓vl_ior, ↓vl_ixor, ↓vl_ishl, ↓vl_ishr, ↓vl_iushr, ↓vl_idiv, ↓vl_irem, ↓vl_ladd, ↓vl_lsub, ↓vl_lmul, ↓vl_lcmp, ↓vl_i2l, ↓vl_dup, ↓vl_dup2, ↓vl_gotoF, ↓vl_gotoB, ↓vl_nnF, ↓vl_ic_eqF, ↓vl_if_eqF, ↓vl_ic_eqB, ↓vl_if_eqB, ↓vl_ic_neF, ↓vl_if_neF, ↓vl_ic_neB, ↓vl_if_neB, ↓vl_ic_ltF, ↓vl_if_ltF, ↓vl_ic_ltB, ↓vl_if_ltB, ↓vl_ic_geF, ↓vl_if_geF, ↓vl_ic_geB, ↓vl_if_geB, ↓vl_ic_gtF, ↓vl_if_gtF, ↓vl_ic_gtB, ↓vl_if_gtB, ↓vl_ic_leF, ↓vl_if_leF, ↓vl_ic_leB, ↓vl_if_leB, ↓vl_sw, ↓vl_get, ↓vl_putI, ↓vl_putL, ↓vl_iald, ↓vl_iast, ↓vl_alen, ↓vl_aald, ↓vl_iretI, ↓vl_iretZ, ↓vl_ret, ↓vl_mark, ↓vl_markT, ↓vl_skip, ↓vl_st0, ↓vl_vi0, ↓vl_st1, ↓vl_vi1, ↓vl_st2, ↓vl_vi2, ↓vl_st3, ↓vl_vi3, ↓vl_st4, ↓vl_vi4, ↓vl_st5, ↓vl_vi5, ↓vl_st6, ↓vl_vi6, ↓vl_min, ↓vl_max, ↓vl_cpy, ↓vk_kvs, ↓vk_kvn, ↓vk_gf0, ↓vk_gv0, ↓vk_gv1, ↓vk_gv2, ↓vk_pf, ↓vk_ar, ↓vk_arr, bc_lay, bc_fn, bc_mk, bc_cs, bc_cat, bc_nl, bc_nth, bc_en, bc_sw, true_and, and_true, ↓reduceIte, reduceCtorEq, Nat.reduceEqDiff, Nat.reduceLeDiff, Nat.reduceAdd, Nat.le_refl, Nat.zero_le, Int.cast_ofNat_Int, Int.reduceEq, eq_self, true_implies, false_implies, not_true_eq_false, not_false_eq_true, bc_vr, Int.reduceToNat, Int.toNat_natCast, Int.reduceLE, Int.reduceLT, Int.reduceNeg, true_or, or_true, forall_const, Int.reduceAdd, e0]
    refine ⟨⟨by omega, by omega⟩, ⟨by omega, by omega⟩, fun c => absurd c (by omega), fun _ => ?_⟩
    refine c7_has (by omega) (fun q => ?_) (fun q => ?_)
    · have fb := pd_fill_b hW (by omega) q
      have st0 : D (7 + 9 * i + 5) = 0 := (pd_ob_iff.mp (pd_wb_iff.mp (pd_wl_ok hV ((pd_cs_spec hW).1 i (by omega) q)).2.1).1).2
      simp -implicitDefEqProofs (disch := omega) only [↓vl_iconst, ↓vl_bipush, ↓vl_sipush, ↓vl_lconst, ↓vl_ldc, ↓vl_ldcw, ↓vl_ldc2, ↓vl_iload0, ↓vl_aload0, ↓vl_istore0, ↓vl_iinc0, ↓vl_iload1, ↓vl_aload1, ↓vl_istore1, ↓vl_iinc1, ↓vl_iload2, ↓vl_aload2, ↓vl_istore2, ↓vl_iinc2, ↓vl_iload3, ↓vl_aload3, ↓vl_istore3, ↓vl_iinc3, ↓vl_iload4, ↓vl_istore4, ↓vl_iinc4, ↓vl_iload5, ↓vl_istore5, ↓vl_iinc5, ↓vl_iload6, ↓vl_istore6, ↓vl_iinc6, ↓vl_iload7, ↓vl_istore7, ↓vl_iinc7, ↓vl_lload5, ↓vl_lstore5, ↓vl_iadd, ↓vl_isub, ↓vl_imul, ↓vl_iand, ↓vl_ior, ↓vl_ixor, ↓vl_ishl, ↓vl_ishr, ↓vl_iushr, ↓vl_idiv, ↓vl_irem, ↓vl_ladd, ↓vl_lsub, ↓vl_lmul, ↓vl_lcmp, ↓vl_i2l, ↓vl_dup, ↓vl_dup2, ↓vl_gotoF, ↓vl_gotoB, ↓vl_nnF, ↓vl_ic_eqF, ↓vl_if_eqF, ↓vl_ic_eqB, ↓vl_if_eqB, ↓vl_ic_neF, ↓vl_if_neF, ↓vl_ic_neB, ↓vl_if_neB, ↓vl_ic_ltF, ↓vl_if_ltF, ↓vl_ic_ltB, ↓vl_if_ltB, ↓vl_ic_geF, ↓vl_if_geF, ↓vl_ic_geB, ↓vl_if_geB, ↓vl_ic_gtF, ↓vl_if_gtF, ↓vl_ic_gtB, ↓vl_if_gtB, ↓vl_ic_leF, ↓vl_if_leF, ↓vl_ic_leB, ↓vl_if_leB, ↓vl_sw, ↓vl_get, ↓vl_putI, ↓vl_putL, ↓vl_iald, ↓vl_iast, ↓vl_alen, ↓vl_aald, ↓vl_iretI, ↓vl_iretZ, ↓vl_ret, ↓vl_mark, ↓vl_markT, ↓vl_skip, ↓vl_st0, ↓vl_vi0, ↓vl_st1, ↓vl_vi1, ↓vl_st2, ↓vl_vi2, ↓vl_st3, ↓vl_vi3, ↓vl_st4, ↓vl_vi4, ↓vl_st5, ↓vl_vi5, ↓vl_st6, ↓vl_vi6, ↓vl_min, ↓vl_max, ↓vl_cpy, ↓vk_kvs, ↓vk_kvn, ↓vk_gf0, ↓vk_gv0, ↓vk_gv1, ↓vk_gv2, ↓vk_pf, ↓vk_ar, ↓vk_arr, bc_lay, bc_fn, bc_mk, bc_cs, bc_cat, bc_nl, bc_nth, bc_en, bc_sw, true_and, and_true, ↓reduceIte, reduceCtorEq, Nat.reduceEqDiff, Nat.reduceLeDiff, Nat.reduceAdd, Nat.le_refl, Nat.zero_le, Int.cast_ofNat_Int, Int.reduceEq, eq_self, true_implies, false_implies, not_true_eq_false, not_false_eq_true, bc_vr, Int.reduceToNat, Int.toNat_natCast, Int.reduceLE, Int.reduceLT, Int.reduceNeg, true_or, or_true, forall_const, Int.reduceAdd, e1, e2, e7, g1, f116, bc_up_row, bc_up_nj, bc_up_at, g7, g2]
      repeat (refine ⟨by omega, ?_⟩)
      have p1 : pd_ro D i 1 = pd_sz D i - pd_fill D i := by unfold pd_ro; simp
      have p2 : pd_ro D i 2 = min (D (7 + 9 * i + 2)) (pd_sz D i - pd_fill D i) := by unfold pd_ro; simp
      have p5 : pd_ro D i 5 = if pd_sz D i - pd_fill D i = 0 then 2 else 0 := by unfold pd_ro; simp
      have p7 : pd_ro D i 7 = D (7 + 9 * i + 7) + pd_fill D i := by unfold pd_ro; simp
      have hM1 := pd_M_st (i := 7 + 9 * i + 7) (v := D (7 + 9 * i + 7) + pd_fill D i) (pd_M_st (i := 7 + 9 * i + 1) (v := pd_sz D i - pd_fill D i) hM)
      have hf1 : ∀ c : Nat, c ≠ 106 → bc_up (bc_up h 106 (7 + 9 * i + 1) (pd_sz D i - pd_fill D i)) 106 (7 + 9 * i + 7) (D (7 + 9 * i + 7) + pd_fill D i) c = h0 c := fun c hc => by rw [bc_up_row hc, bc_up_row hc]; exact hf c hc
      have r5 : pd_rm D (D 0).toNat i (7 + 9 * i + 5) = D (7 + 9 * i + 5) := by rw [pd_rm_at (by omega), if_neg (by omega)]
      have r2 : pd_rm D (D 0).toNat i (7 + 9 * i + 2) = D (7 + 9 * i + 2) := by rw [pd_rm_at (by omega), if_neg (by omega)]
      refine ⟨fun z => ?_, fun z => ?_⟩
      · refine l7_run_186 (s := pd_sz D i - pd_fill D i) (by omega) ⟨by omega, by omega⟩ ?_ (fun y => ?_) (fun y => ?_)
        · simp (disch := omega) only [bc_up_nj, bc_up_at]
        · rw [if_pos y] at p5
          refine l7_run_208 (nx _ (by omega) (pd_M_congr (pd_M_st (i := 7 + 9 * i + 5) (v := 2) hM1) (pd_rm_nx (by omega) q (fun j hj => ?_) (fun x w hw hx hne => ?_) ?_ ?_ ?_ ?_ ?_ ?_ ?_ ?_ ?_)) (fun c hc => by rw [bc_up_row hc]; exact hf1 c hc))
          all_goals simp (disch := omega) only [pd_st_ne, pd_st_x, p1, p2, p5, p7, r2]
          all_goals omega
        · rw [if_neg y] at p5
          refine l7_run_208 (nx _ (by omega) (pd_M_congr hM1 (pd_rm_nx (by omega) q (fun j hj => ?_) (fun x w hw hx hne => ?_) ?_ ?_ ?_ ?_ ?_ ?_ ?_ ?_ ?_)) hf1)
          all_goals simp (disch := omega) only [pd_st_ne, pd_st_x, p1, p2, p5, p7, r2, r5]
          all_goals omega
      · repeat (refine ⟨by omega, ?_⟩)
        refine l7_run_186 (i := i) (s := pd_sz D i - pd_fill D i) (by omega) ⟨by omega, by omega⟩ ?_ (fun y => ?_) (fun y => ?_)
        · simp (disch := omega) only [bc_up_nj, bc_up_at]
        · rw [if_pos y] at p5
          refine l7_run_208 (nx _ (by omega) (pd_M_congr (pd_M_st (i := 7 + 9 * i + 5) (v := 2) (pd_M_st (i := 7 + 9 * i + 2) (v := pd_sz D i - pd_fill D i) hM1)) (pd_rm_nx (by omega) q (fun j hj => ?_) (fun x w hw hx hne => ?_) ?_ ?_ ?_ ?_ ?_ ?_ ?_ ?_ ?_)) (fun c hc => by rw [bc_up_row hc, bc_up_row hc]; exact hf1 c hc))
          all_goals simp (disch := omega) only [pd_st_ne, pd_st_x, p1, p2, p5, p7, r2]
          all_goals omega
        · rw [if_neg y] at p5
          refine l7_run_208 (nx _ (by omega) (pd_M_congr (pd_M_st (i := 7 + 9 * i + 2) (v := pd_sz D i - pd_fill D i) hM1) (pd_rm_nx (by omega) q (fun j hj => ?_) (fun x w hw hx hne => ?_) ?_ ?_ ?_ ?_ ?_ ?_ ?_ ?_ ?_)) (fun c hc => by rw [bc_up_row hc]; exact hf1 c hc))
          all_goals simp (disch := omega) only [pd_st_ne, pd_st_x, p1, p2, p5, p7, r2, r5]
          all_goals omega
    · simp -implicitDefEqProofs only [↓vl_iconst, ↓vl_bipush, ↓vl_sipush, ↓vl_lconst, ↓vl_ldc, ↓vl_ldcw, ↓vl_ldc2, ↓vl_iload0, ↓vl_aload0, ↓vl_istore0, ↓vl_iinc0, ↓vl_iload1, ↓vl_aload1, ↓vl_istore1, ↓vl_iinc1, ↓vl_iload2, ↓vl_aload2, ↓vl_istore2, ↓vl_iinc2, ↓vl_iload3, ↓vl_aload3, ↓vl_istore3, ↓vl_iinc3, ↓vl_iload4, ↓vl_istore4, ↓vl_iinc4, ↓vl_iload5, ↓vl_istore5, ↓vl_iinc5, ↓vl_iload6, ↓vl_istore6, ↓vl_iinc6, ↓vl_iload7, ↓vl_istore7, ↓vl_iinc7, ↓vl_lload5, ↓vl_lstore5, ↓vl_iadd, ↓vl_isub, ↓vl_imul, ↓vl_iand, ↓vl_ior, ↓vl_ixor, ↓vl_ishl, ↓vl_ishr, ↓vl_iushr, ↓vl_idiv, ↓vl_irem, ↓vl_ladd, ↓vl_lsub, ↓vl_lmul, ↓vl_lcmp, ↓vl_i2l, ↓vl_dup, ↓vl_dup2, ↓vl_gotoF, ↓vl_gotoB, ↓vl_nnF, ↓vl_ic_eqF, ↓vl_if_eqF, ↓vl_ic_eqB, ↓vl_if_eqB, ↓vl_ic_neF, ↓vl_if_neF, ↓vl_ic_neB, ↓vl_if_neB, ↓vl_ic_ltF, ↓vl_if_ltF, ↓vl_ic_ltB, ↓vl_if_ltB, ↓vl_ic_geF, ↓vl_if_geF, ↓vl_ic_geB, ↓vl_if_geB, ↓vl_ic_gtF, ↓vl_if_gtF, ↓vl_ic_gtB, ↓vl_if_gtB, ↓vl_ic_leF, ↓vl_if_leF, ↓vl_ic_leB, ↓vl_if_leB, ↓vl_sw, ↓vl_get, ↓vl_putI, ↓vl_putL, ↓vl_iald, ↓vl_iast, ↓vl_alen, ↓vl_aald, ↓vl_iretI, ↓vl_iretZ, ↓vl_ret, ↓vl_mark, ↓vl_markT, ↓vl_skip, ↓vl_st0, ↓vl_vi0, ↓vl_st1, ↓vl_vi1, ↓vl_st2, ↓vl_vi2, ↓vl_st3, ↓vl_vi3, ↓vl_st4, ↓vl_vi4, ↓vl_st5, ↓vl_vi5, ↓vl_st6, ↓vl_vi6, ↓vl_min, ↓vl_max, ↓vl_cpy, ↓vk_kvs, ↓vk_kvn, ↓vk_gf0, ↓vk_gv0, ↓vk_gv1, ↓vk_gv2, ↓vk_pf, ↓vk_ar, ↓vk_arr, bc_lay, bc_fn, bc_mk, bc_cs, bc_cat, bc_nl, bc_nth, bc_en, bc_sw, true_and, and_true, ↓reduceIte, reduceCtorEq, Nat.reduceEqDiff, Nat.reduceLeDiff, Nat.reduceAdd, Nat.le_refl, Nat.zero_le, Int.cast_ofNat_Int, Int.reduceEq, eq_self, true_implies, false_implies, not_true_eq_false, not_false_eq_true, bc_vr, Int.reduceToNat, Int.toNat_natCast, Int.reduceLE, Int.reduceLT, Int.reduceNeg, true_or, or_true, forall_const, Int.reduceAdd]
      refine l7_run_208 (nx h (by omega) (pd_M_congr hM (pd_row_ext (fun j hj => by rw [pd_rm_hd hj, pd_rm_hd hj]) (fun x w hw hx => ?_))) hf)
      rw [pd_rm_at hw, pd_rm_at hw]
      by_cases z : x = i
      · subst z; rw [if_neg (fun y => q y.1), if_neg (fun y => q y.1)]
      · by_cases c : x < i
        · have c2 : x < i + 1 := by omega
          simp only [c, c2]
        · have c2 : ¬ x < i + 1 := by omega
          simp only [c, c2]
theorem p7_run (hR : pd_RM T n F D Hs h) (hS : pd_SV T n F D Hs) (kk : ∀ h', pd_RM T n F (pd_aD (pd_runC D) D (pd_run D)) (pd_aH (pd_runC D) D Hs) h' → pd_gM h h' → post (some (.inl (pd_cv D))) h') : bc_OK (d + 8) 134 [.inr (.inr 104)] h post := by
  have hW := hS.2.2.1
  have hV := hW.1
  have v0 := hV.1
  have v1 := hV.2.1
  have hcv : 0 ≤ pd_cv D ∧ pd_cv D ≤ 600000 := pd_pk_b hW
  have hM0 : pd_M 106 D (bc_up h 104 0 0) := pd_M_fr hR.2.2.1 (bc_up_row (by omega))
  unfold pd_runC pd_aD pd_aH at kk
  refine bc_run (n := 5) ck_X7_run rfl rfl rfl rfl (Nat.le_of_ble_eq_true rfl) ?_
  simp -implicitDefEqProofs only [k_X7_run, ↓vl_iconst, ↓vl_bipush, ↓vl_sipush, ↓vl_lconst, ↓vl_ldc, ↓vl_ldcw, ↓vl_ldc2, ↓vl_iload0, ↓vl_aload0, ↓vl_istore0, ↓vl_iinc0, ↓vl_iload1, ↓vl_aload1, ↓vl_istore1, ↓vl_iinc1, ↓vl_iload2, ↓vl_aload2, ↓vl_istore2, ↓vl_iinc2, ↓vl_iload3, ↓vl_aload3, ↓vl_istore3, ↓vl_iinc3, ↓vl_iload4, ↓vl_istore4, ↓vl_iinc4, ↓vl_iload5, ↓vl_istore5, ↓vl_iinc5, ↓vl_iload6, ↓vl_istore6, ↓vl_iinc6, ↓vl_iload7, ↓vl_istore7, ↓vl_iinc7, ↓vl_lload5, ↓vl_lstore5, ↓vl_iadd, ↓vl_isub, ↓vl_imul, ↓vl_iand, ↓vl_ior, ↓vl_ixor, ↓vl_ishl, ↓vl_ishr, ↓vl_iushr, ↓vl_idiv, ↓vl_irem, ↓vl_ladd, ↓vl_lsub, ↓vl_lmul, ↓vl_lcmp, ↓vl_i2l, ↓vl_dup, ↓vl_dup2, ↓vl_gotoF, ↓vl_gotoB, ↓vl_nnF, ↓vl_ic_eqF, ↓vl_if_eqF, ↓vl_ic_eqB, ↓vl_if_eqB, ↓vl_ic_neF, ↓vl_if_neF, ↓vl_ic_neB, ↓vl_if_neB, ↓vl_ic_ltF, ↓vl_if_ltF, ↓vl_ic_ltB, ↓vl_if_ltB, ↓vl_ic_geF, ↓vl_if_geF, ↓vl_ic_geB, ↓vl_if_geB, ↓vl_ic_gtF, ↓vl_if_gtF, ↓vl_ic_gtB, ↓vl_if_gtB, ↓vl_ic_leF, ↓vl_if_leF, ↓vl_ic_leB, ↓vl_if_leB, ↓vl_sw, ↓vl_get, ↓vl_putI, ↓vl_putL, ↓vl_iald, ↓vl_iast, ↓vl_alen, ↓vl_aald, ↓vl_iretI, ↓vl_iretZ, ↓vl_ret, ↓vl_mark, ↓vl_markT, ↓vl_skip, ↓vl_st0, ↓vl_vi0, ↓vl_st1, ↓vl_vi1, ↓vl_st2, ↓vl_vi2, ↓vl_st3, ↓vl_vi3, ↓vl_st4, ↓vl_vi4, ↓vl_st5, ↓vl_vi5, ↓vl_st6, ↓vl_vi6, ↓vl_min, ↓vl_max, ↓vl_cpy, ↓vk_kvs, ↓vk_kvn, ↓vk_gf0, ↓vk_gv0, ↓vk_gv1, ↓vk_gv2, ↓vk_pf, ↓vk_ar, ↓vk_arr, bc_lay, bc_fn, bc_mk, bc_cs, bc_cat, bc_nl, bc_nth, bc_en, bc_sw, true_and, and_true, ↓reduceIte, reduceCtorEq, Nat.reduceEqDiff, Nat.reduceLeDiff, Nat.reduceAdd, Nat.le_refl, Nat.zero_le, Int.cast_ofNat_Int, Int.reduceEq, eq_self, true_implies, false_implies, not_true_eq_false, not_false_eq_true, bc_vr, Int.reduceToNat, Int.toNat_natCast, Int.reduceLE, Int.reduceLT, Int.reduceNeg, true_or, or_true, forall_const, Int.reduceAdd]
  refine c7_laysFills hM0 hW (fun h3 g1 g2 g3 g4 g5 => ?_)
  have hR3 : pd_RM T n F D Hs h3 := pd_RM_fr hR (fun j q0 q1 q2 q3 q4 q5 => by rw [g1 j q1 q2 q3 q4 q5]; simp [bc_up, q0]) (fun c q1 q2 => by rw [g2 c q1 (by omega), bc_up_row q1])
  have hG3 : pd_gM h h3 := fun c b => by rw [g2 c (by omega) (by omega), bc_up_row (by omega)]
  simp -implicitDefEqProofs only [↓vl_iconst, ↓vl_bipush, ↓vl_sipush, ↓vl_lconst, ↓vl_ldc, ↓vl_ldcw, ↓vl_ldc2, ↓vl_iload0, ↓vl_aload0, ↓vl_istore0, ↓vl_iinc0, ↓vl_iload1, ↓vl_aload1, ↓vl_istore1, ↓vl_iinc1, ↓vl_iload2, ↓vl_aload2, ↓vl_istore2, ↓vl_iinc2, ↓vl_iload3, ↓vl_aload3, ↓vl_istore3, ↓vl_iinc3, ↓vl_iload4, ↓vl_istore4, ↓vl_iinc4, ↓vl_iload5, ↓vl_istore5, ↓vl_iinc5, ↓vl_iload6, ↓vl_istore6, ↓vl_iinc6, ↓vl_iload7, ↓vl_istore7, ↓vl_iinc7, ↓vl_lload5, ↓vl_lstore5, ↓vl_iadd, ↓vl_isub, ↓vl_imul, ↓vl_iand, ↓vl_ior, ↓vl_ixor, ↓vl_ishl, ↓vl_ishr, ↓vl_iushr, ↓vl_idiv, ↓vl_irem, ↓vl_ladd, ↓vl_lsub, ↓vl_lmul, ↓vl_lcmp, ↓vl_i2l, ↓vl_dup, ↓vl_dup2, ↓vl_gotoF, ↓vl_gotoB, ↓vl_nnF, ↓vl_ic_eqF, ↓vl_if_eqF, ↓vl_ic_eqB, ↓vl_if_eqB, ↓vl_ic_neF, ↓vl_if_neF, ↓vl_ic_neB, ↓vl_if_neB, ↓vl_ic_ltF, ↓vl_if_ltF, ↓vl_ic_ltB, ↓vl_if_ltB, ↓vl_ic_geF, ↓vl_if_geF, ↓vl_ic_geB, ↓vl_if_geB, ↓vl_ic_gtF, ↓vl_if_gtF, ↓vl_ic_gtB, ↓vl_if_gtB, ↓vl_ic_leF, ↓vl_if_leF, ↓vl_ic_leB, ↓vl_if_leB, ↓vl_sw, ↓vl_get, ↓vl_putI, ↓vl_putL, ↓vl_iald, ↓vl_iast, ↓vl_alen, ↓vl_aald, ↓vl_iretI, ↓vl_iretZ, ↓vl_ret, ↓vl_mark, ↓vl_markT, ↓vl_skip, ↓vl_st0, ↓vl_vi0, ↓vl_st1, ↓vl_vi1, ↓vl_st2, ↓vl_vi2, ↓vl_st3, ↓vl_vi3, ↓vl_st4, ↓vl_vi4, ↓vl_st5, ↓vl_vi5, ↓vl_st6, ↓vl_vi6, ↓vl_min, ↓vl_max, ↓vl_cpy, ↓vk_kvs, ↓vk_kvn, ↓vk_gf0, ↓vk_gv0, ↓vk_gv1, ↓vk_gv2, ↓vk_pf, ↓vk_ar, ↓vk_arr, bc_lay, bc_fn, bc_mk, bc_cs, bc_cat, bc_nl, bc_nth, bc_en, bc_sw, true_and, and_true, ↓reduceIte, reduceCtorEq, Nat.reduceEqDiff, Nat.reduceLeDiff, Nat.reduceAdd, Nat.le_refl, Nat.zero_le, Int.cast_ofNat_Int, Int.reduceEq, eq_self, true_implies, false_implies, not_true_eq_false, not_false_eq_true, bc_vr, Int.reduceToNat, Int.toNat_natCast, Int.reduceLE, Int.reduceLT, Int.reduceNeg, true_or, or_true, forall_const, Int.reduceAdd, g3, g4]
  refine ⟨⟨by omega, by omega⟩, fun z => ?_, fun z => ?_⟩
  · simp only [decide_eq_false z, Bool.not_false, if_true] at kk
    refine c7_snap hR3.2.2.1 hR3.2.2.2 hS.2.2.2.1 (fun h4 a1 a2 a3 => ?_)
    have hM4 : pd_M 106 D h4 := pd_M_fr hR3.2.2.1 (a3 106 (by omega) (by omega))
    simp -implicitDefEqProofs only [↓vl_iconst, ↓vl_bipush, ↓vl_sipush, ↓vl_lconst, ↓vl_ldc, ↓vl_ldcw, ↓vl_ldc2, ↓vl_iload0, ↓vl_aload0, ↓vl_istore0, ↓vl_iinc0, ↓vl_iload1, ↓vl_aload1, ↓vl_istore1, ↓vl_iinc1, ↓vl_iload2, ↓vl_aload2, ↓vl_istore2, ↓vl_iinc2, ↓vl_iload3, ↓vl_aload3, ↓vl_istore3, ↓vl_iinc3, ↓vl_iload4, ↓vl_istore4, ↓vl_iinc4, ↓vl_iload5, ↓vl_istore5, ↓vl_iinc5, ↓vl_iload6, ↓vl_istore6, ↓vl_iinc6, ↓vl_iload7, ↓vl_istore7, ↓vl_iinc7, ↓vl_lload5, ↓vl_lstore5, ↓vl_iadd, ↓vl_isub, ↓vl_imul, ↓vl_iand, ↓vl_ior, ↓vl_ixor, ↓vl_ishl, ↓vl_ishr, ↓vl_iushr, ↓vl_idiv, ↓vl_irem, ↓vl_ladd, ↓vl_lsub, ↓vl_lmul, ↓vl_lcmp, ↓vl_i2l, ↓vl_dup, ↓vl_dup2, ↓vl_gotoF, ↓vl_gotoB, ↓vl_nnF, ↓vl_ic_eqF, ↓vl_if_eqF, ↓vl_ic_eqB, ↓vl_if_eqB, ↓vl_ic_neF, ↓vl_if_neF, ↓vl_ic_neB, ↓vl_if_neB, ↓vl_ic_ltF, ↓vl_if_ltF, ↓vl_ic_ltB, ↓vl_if_ltB, ↓vl_ic_geF, ↓vl_if_geF, ↓vl_ic_geB, ↓vl_if_geB, ↓vl_ic_gtF, ↓vl_if_gtF, ↓vl_ic_gtB, ↓vl_if_gtB, ↓vl_ic_leF, ↓vl_if_leF, ↓vl_ic_leB, ↓vl_if_leB, ↓vl_sw, ↓vl_get, ↓vl_putI, ↓vl_putL, ↓vl_iald, ↓vl_iast, ↓vl_alen, ↓vl_aald, ↓vl_iretI, ↓vl_iretZ, ↓vl_ret, ↓vl_mark, ↓vl_markT, ↓vl_skip, ↓vl_st0, ↓vl_vi0, ↓vl_st1, ↓vl_vi1, ↓vl_st2, ↓vl_vi2, ↓vl_st3, ↓vl_vi3, ↓vl_st4, ↓vl_vi4, ↓vl_st5, ↓vl_vi5, ↓vl_st6, ↓vl_vi6, ↓vl_min, ↓vl_max, ↓vl_cpy, ↓vk_kvs, ↓vk_kvn, ↓vk_gf0, ↓vk_gv0, ↓vk_gv1, ↓vk_gv2, ↓vk_pf, ↓vk_ar, ↓vk_arr, bc_lay, bc_fn, bc_mk, bc_cs, bc_cat, bc_nl, bc_nth, bc_en, bc_sw, true_and, and_true, ↓reduceIte, reduceCtorEq, Nat.reduceEqDiff, Nat.reduceLeDiff, Nat.reduceAdd, Nat.le_refl, Nat.zero_le, Int.cast_ofNat_Int, Int.reduceEq, eq_self, true_implies, false_implies, not_true_eq_false, not_false_eq_true, bc_vr, Int.reduceToNat, Int.toNat_natCast, Int.reduceLE, Int.reduceLT, Int.reduceNeg, true_or, or_true, forall_const, Int.reduceAdd]
    have h116 : ∀ y : Nat, y < 24 → h4 116 y = pd_fill D y := fun y hy => by rw [a3 116 (by omega) (by omega)]; exact g5 y hy
    refine l7_run_31 (d := d + 5) hW (h0 := h4) h116 (fun h5 b1 b2 => ?_) (D 0).toNat 0 h4 (by omega) (pd_M_congr hM4 (pd_row_ext (fun j hj => by rw [pd_rm_hd hj]) (fun x w hw hx => by rw [pd_rm_at hw, if_neg (by omega)]))) (fun _ _ => rfl)
    refine at_X7_run_78 ?_
    simp -implicitDefEqProofs only [ks_X7_run_78, ↓vl_iconst, ↓vl_bipush, ↓vl_sipush, ↓vl_lconst, ↓vl_ldc, ↓vl_ldcw, ↓vl_ldc2, ↓vl_iload0, ↓vl_aload0, ↓vl_istore0, ↓vl_iinc0, ↓vl_iload1, ↓vl_aload1, ↓vl_istore1, ↓vl_iinc1, ↓vl_iload2, ↓vl_aload2, ↓vl_istore2, ↓vl_iinc2, ↓vl_iload3, ↓vl_aload3, ↓vl_istore3, ↓vl_iinc3, ↓vl_iload4, ↓vl_istore4, ↓vl_iinc4, ↓vl_iload5, ↓vl_istore5, ↓vl_iinc5, ↓vl_iload6, ↓vl_istore6, ↓vl_iinc6, ↓vl_iload7, ↓vl_istore7, ↓vl_iinc7, ↓vl_lload5, ↓vl_lstore5, ↓vl_iadd, ↓vl_isub, ↓vl_imul, ↓vl_iand, ↓vl_ior, ↓vl_ixor, ↓vl_ishl, ↓vl_ishr, ↓vl_iushr, ↓vl_idiv, ↓vl_irem, ↓vl_ladd, ↓vl_lsub, ↓vl_lmul, ↓vl_lcmp, ↓vl_i2l, ↓vl_dup, ↓vl_dup2, ↓vl_gotoF, ↓vl_gotoB, ↓vl_nnF, ↓vl_ic_eqF, ↓vl_if_eqF, ↓vl_ic_eqB, ↓vl_if_eqB, ↓vl_ic_neF, ↓vl_if_neF, ↓vl_ic_neB, ↓vl_if_neB, ↓vl_ic_ltF, ↓vl_if_ltF, ↓vl_ic_ltB, ↓vl_if_ltB, ↓vl_ic_geF, ↓vl_if_geF, ↓vl_ic_geB, ↓vl_if_geB, ↓vl_ic_gtF, ↓vl_if_gtF, ↓vl_ic_gtB, ↓vl_if_gtB, ↓vl_ic_leF, ↓vl_if_leF, ↓vl_ic_leB, ↓vl_if_leB, ↓vl_sw, ↓vl_get, ↓vl_putI, ↓vl_putL, ↓vl_iald, ↓vl_iast, ↓vl_alen, ↓vl_aald, ↓vl_iretI, ↓vl_iretZ, ↓vl_ret, ↓vl_mark, ↓vl_markT, ↓vl_skip, ↓vl_st0, ↓vl_vi0, ↓vl_st1, ↓vl_vi1, ↓vl_st2, ↓vl_vi2, ↓vl_st3, ↓vl_vi3, ↓vl_st4, ↓vl_vi4, ↓vl_st5, ↓vl_vi5, ↓vl_st6, ↓vl_vi6, ↓vl_min, ↓vl_max, ↓vl_cpy, ↓vk_kvs, ↓vk_kvn, ↓vk_gf0, ↓vk_gv0, ↓vk_gv1, ↓vk_gv2, ↓vk_pf, ↓vk_ar, ↓vk_arr, bc_lay, bc_fn, bc_mk, bc_cs, bc_cat, bc_nl, bc_nth, bc_en, bc_sw, true_and, and_true, ↓reduceIte, reduceCtorEq, Nat.reduceEqDiff, Nat.reduceLeDiff, Nat.reduceAdd, Nat.le_refl, Nat.zero_le, Int.cast_ofNat_Int, Int.reduceEq, eq_self, true_implies, false_implies, not_true_eq_false, not_false_eq_true, bc_vr, Int.reduceToNat, Int.toNat_natCast, Int.reduceLE, Int.reduceLT, Int.reduceNeg, true_or, or_true, forall_const, Int.reduceAdd]
    refine l7_run_80 (d := d + 5) hW (h0 := h5) (fun y hy => by rw [b2 116 (by omega)]; exact h116 y hy) (fun h6 c1 c2 => ?_) (D 0).toNat 0 h5 (by omega) b1 (fun _ _ => rfl)
    have e1 : h6 106 1 = D 1 := by rw [c1 1 (by omega)]; exact pd_rm_hd (by omega)
    have e2 : h6 106 2 = D 2 := by rw [c1 2 (by omega)]; exact pd_rm_hd (by omega)
    have e3 : h6 106 3 = D 3 := by rw [c1 3 (by omega)]; exact pd_rm_hd (by omega)
    refine at_X7_run_214 ?_
    simp -implicitDefEqProofs (disch := omega) only [ks_X7_run_214, ↓vl_iconst, ↓vl_bipush, ↓vl_sipush, ↓vl_lconst, ↓vl_ldc, ↓vl_ldcw, ↓vl_ldc2, ↓vl_iload0, ↓vl_aload0, ↓vl_istore0, ↓vl_iinc0, ↓vl_iload1, ↓vl_aload1, ↓vl_istore1, ↓vl_iinc1, ↓vl_iload2, ↓vl_aload2, ↓vl_istore2, ↓vl_iinc2, ↓vl_iload3, ↓vl_aload3, ↓vl_istore3, ↓vl_iinc3, ↓vl_iload4, ↓vl_istore4, ↓vl_iinc4, ↓vl_iload5, ↓vl_istore5, ↓vl_iinc5, ↓vl_iload6, ↓vl_istore6, ↓vl_iinc6, ↓vl_iload7, ↓vl_istore7, ↓vl_iinc7, ↓vl_lload5, ↓vl_lstore5, ↓vl_iadd, ↓vl_isub, ↓vl_imul, ↓vl_iand, ↓vl_ior, ↓vl_ixor, ↓vl_ishl, ↓vl_ishr, ↓vl_iushr, ↓vl_idiv, ↓vl_irem, ↓vl_ladd, ↓vl_lsub, ↓vl_lmul, ↓vl_lcmp, ↓vl_i2l, ↓vl_dup, ↓vl_dup2, ↓vl_gotoF, ↓vl_gotoB, ↓vl_nnF, ↓vl_ic_eqF, ↓vl_if_eqF, ↓vl_ic_eqB, ↓vl_if_eqB, ↓vl_ic_neF, ↓vl_if_neF, ↓vl_ic_neB, ↓vl_if_neB, ↓vl_ic_ltF, ↓vl_if_ltF, ↓vl_ic_ltB, ↓vl_if_ltB, ↓vl_ic_geF, ↓vl_if_geF, ↓vl_ic_geB, ↓vl_if_geB, ↓vl_ic_gtF, ↓vl_if_gtF, ↓vl_ic_gtB, ↓vl_if_gtB, ↓vl_ic_leF, ↓vl_if_leF, ↓vl_ic_leB, ↓vl_if_leB, ↓vl_sw, ↓vl_get, ↓vl_putI, ↓vl_putL, ↓vl_iald, ↓vl_iast, ↓vl_alen, ↓vl_aald, ↓vl_iretI, ↓vl_iretZ, ↓vl_ret, ↓vl_mark, ↓vl_markT, ↓vl_skip, ↓vl_st0, ↓vl_vi0, ↓vl_st1, ↓vl_vi1, ↓vl_st2, ↓vl_vi2, ↓vl_st3, ↓vl_vi3, ↓vl_st4, ↓vl_vi4, ↓vl_st5, ↓vl_vi5, ↓vl_st6, ↓vl_vi6, ↓vl_min, ↓vl_max, ↓vl_cpy, ↓vk_kvs, ↓vk_kvn, ↓vk_gf0, ↓vk_gv0, ↓vk_gv1, ↓vk_gv2, ↓vk_pf, ↓vk_ar, ↓vk_arr, bc_lay, bc_fn, bc_mk, bc_cs, bc_cat, bc_nl, bc_nth, bc_en, bc_sw, true_and, and_true, ↓reduceIte, reduceCtorEq, Nat.reduceEqDiff, Nat.reduceLeDiff, Nat.reduceAdd, Nat.le_refl, Nat.zero_le, Int.cast_ofNat_Int, Int.reduceEq, eq_self, true_implies, false_implies, not_true_eq_false, not_false_eq_true, bc_vr, Int.reduceToNat, Int.toNat_natCast, Int.reduceLE, Int.reduceLT, Int.reduceNeg, true_or, or_true, forall_const, Int.reduceAdd, e1, e2, e3, bc_up_nj, bc_up_at]
    have other : ∀ c : Nat, c ≠ 106 → h6 c = h4 c := fun c hc => by rw [c2 c hc, b2 c hc]
    refine kk _ (pd_RM_new hR3 ?_ ?_ ?_ (fun j hj => ?_) (pd_HM_fr a1 ?_ ?_)) (fun c hc => ?_)
    · simp (disch := omega) only [bc_up_row]; rw [other 104 (by omega)]; exact a2 2 (by omega)
    · simp (disch := omega) only [bc_up_row]; rw [other 104 (by omega)]; exact a2 8 (by omega)
    · simp (disch := omega) only [bc_up_row]; rw [other 105 (by omega)]; exact a3 105 (by omega) (by omega)
    · show _ = pd_run D j
      by_cases j7 : 7 ≤ j
      · rw [pd_run_hi j7]
        simp (disch := omega) only [bc_up_nj]
        exact c1 j hj
      · have e : j = 0 ∨ j = 1 ∨ j = 2 ∨ j = 3 ∨ j = 4 ∨ j = 5 ∨ j = 6 := by omega
        have x0 := c1 0 (by omega)
        rw [pd_rm_hd (by omega)] at x0
        rcases e with rfl | rfl | rfl | rfl | rfl | rfl | rfl
        · rw [pd_run_01.1]; simp (disch := omega) only [bc_up_nj]; exact x0
        · rw [pd_run_01.2]; simp (disch := omega) only [bc_up_nj]; exact e1
        · simp (disch := omega) only [bc_up_nj, bc_up_at]; rfl
        · simp (disch := omega) only [bc_up_nj, bc_up_at]; rfl
        · simp (disch := omega) only [bc_up_nj, bc_up_at]; rfl
        · simp (disch := omega) only [bc_up_nj, bc_up_at]; rfl
        · simp (disch := omega) only [bc_up_at]; rfl
    · simp (disch := omega) only [bc_up_row]; rw [other 104 (by omega)]
    · simp (disch := omega) only [bc_up_row]; rw [other 108 (by omega)]
    · simp (disch := omega) only [bc_up_row]; rw [other c (by omega), a3 c (by omega) (by omega)]; exact hG3 c hc
  · have z' := Classical.not_not.mp z
    simp only [decide_eq_true z', Bool.not_true, Bool.false_eq_true, if_false] at kk
    rw [z'] at kk
    exact kk h3 hR3 hG3
end MRun
