/-! both sides: feed -/
/-- four bytes behind the tape -/
def pd_pt (T : Nat → Int) (n w : Int) : Nat → Int := fun i => if (i : Int) = n then bc_and (bc_ushr w 24) 255 else if (i : Int) = n + 1 then bc_and (bc_ushr w 16) 255 else if (i : Int) = n + 2 then bc_and (bc_ushr w 8) 255 else if (i : Int) = n + 3 then bc_and (bc_ushr w 0) 255 else T i
theorem bc_and255 (x : Int) : 0 ≤ bc_and x 255 ∧ bc_and x 255 ≤ 255 := by
  obtain ⟨j, hj, e⟩ := pk_andE (Int32.ofInt x) (m := Int32.ofInt 255) 8 (by decide +kernel)
  unfold bc_and
  rw [e, nI_toInt (by omega)]
  omega
theorem pd_pt_b {T : Nat → Int} {n w : Int} (h : ∀ i : Nat, (i : Int) < n → 0 ≤ T i ∧ T i ≤ 255) : ∀ i : Nat, (i : Int) < n + 4 → 0 ≤ pd_pt T n w i ∧ pd_pt T n w i ≤ 255 := by
  intro i hi
  unfold pd_pt
  split
  · exact bc_and255 _
  · split
    · exact bc_and255 _
    · split
      · exact bc_and255 _
      · split
        · exact bc_and255 _
        · exact h i (by omega)
section Feed
variable {d : Nat} {h : bc_AH} {post : Option bc_AV → bc_AH → Prop} {T : Nat → Int} {n w : Int}
theorem l5_put {s L : Int} (hs : 0 ≤ s ∧ s ≤ 24) (hL : 0 ≤ L ∧ L < 440) (e : h 1 1 = L) (k : bc_AT d 51 post 3 [some (.inr (.inr 1)), some (.inl w), some (.inl (s + -8))] [] (bc_up (bc_up h 2 L.toNat (bc_and (bc_ushr w s) 255)) 1 1 (L + 1))) : bc_AT d 51 post 3 [some (.inr (.inr 1)), some (.inl w), some (.inl s)] [] h := by
  have e2 : bc_up h 2 L.toNat (bc_and (bc_ushr w s) 255) 1 1 = L := by simp [bc_up, e]
  refine at_X5_put_3 ?_
  simp -implicitDefEqProofs only [ks_X5_put_3, ↓vl_iconst, ↓vl_bipush, ↓vl_sipush, ↓vl_lconst, ↓vl_ldc, ↓vl_ldcw, ↓vl_ldc2, ↓vl_iload0, ↓vl_aload0, ↓vl_istore0, ↓vl_iinc0, ↓vl_iload1, ↓vl_aload1, ↓vl_istore1, ↓vl_iinc1, ↓vl_iload2, ↓vl_aload2, ↓vl_istore2, ↓vl_iinc2, ↓vl_iload3, ↓vl_aload3, ↓vl_istore3, ↓vl_iinc3, ↓vl_iload4, ↓vl_istore4, ↓vl_iinc4, ↓vl_iload5, ↓vl_istore5, ↓vl_iinc5, ↓vl_iload6, ↓vl_istore6, ↓vl_iinc6, ↓vl_iload7, ↓vl_istore7, ↓vl_iinc7, ↓vl_lload5, ↓vl_lstore5, ↓vl_iadd, ↓vl_isub, ↓vl_imul, ↓vl_iand, ↓vl_ior, ↓vl_ixor, ↓vl_ishl, ↓vl_ishr, ↓vl_iushr, ↓vl_idiv, ↓vl_irem, ↓vl_ladd, ↓vl_lsub, ↓vl_lmul, ↓vl_lcmp, ↓vl_i2l, ↓vl_dup, ↓vl_dup2, ↓vl_gotoF, ↓vl_gotoB, ↓vl_nnF, ↓vl_ic_eqF, ↓vl_if_eqF, ↓vl_ic_eqB, ↓vl_if_eqB, ↓vl_ic_neF, ↓vl_if_neF, ↓vl_ic_neB, ↓vl_if_neB, ↓vl_ic_ltF, ↓vl_if_ltF, ↓vl_ic_ltB, ↓vl_if_ltB, ↓vl_ic_geF, ↓vl_if_geF, ↓vl_ic_geB, ↓vl_if_geB, ↓vl_ic_gtF, ↓vl_if_gtF, ↓vl_ic_gtB, ↓vl_if_gtB, ↓vl_ic_leF, ↓vl_if_leF, ↓vl_ic_leB, ↓vl_if_leB, ↓vl_sw, ↓vl_get, ↓vl_putI, ↓vl_putL, ↓vl_iald, ↓vl_iast, ↓vl_alen, ↓vl_aald, ↓vl_iretI, ↓vl_iretZ, ↓vl_ret, ↓vl_mark, ↓vl_markT, ↓vl_skip, ↓vl_st0, ↓vl_vi0, ↓vl_st1, ↓vl_vi1, ↓vl_st2, ↓vl_vi2, ↓vl_st3, ↓vl_vi3, ↓vl_st4, ↓vl_vi4, ↓vl_st5, ↓vl_vi5, ↓vl_st6, ↓vl_vi6, ↓vl_min, ↓vl_max, ↓vl_cpy, ↓vk_kvs, ↓vk_kvn, ↓vk_gf0, ↓vk_gv0, ↓vk_gv1, ↓vk_gv2, ↓vk_pf, ↓vk_ar, ↓vk_arr, bc_lay, bc_fn, bc_mk, bc_cs, bc_cat, bc_nl, bc_nth, bc_en, bc_sw, true_and, and_true, ↓reduceIte, reduceCtorEq, Nat.reduceEqDiff, Nat.reduceLeDiff, Nat.reduceAdd, Nat.le_refl, Nat.zero_le, Int.cast_ofNat_Int, Int.reduceEq, eq_self, true_implies, false_implies, not_true_eq_false, not_false_eq_true, bc_vr, Int.reduceToNat, Int.toNat_natCast, Int.reduceLE, Int.reduceLT, Int.reduceNeg, true_or, or_true, forall_const, Int.reduceAdd, e, e2]
  exact ⟨⟨by omega, by omega⟩, fun c => absurd c (by omega), fun _ => ⟨⟨by omega, by omega⟩, fun c => absurd c (by omega), fun _ => ⟨⟨by omega, by omega⟩, fun c => absurd c (by omega), fun _ => ⟨by omega, by omega, k⟩⟩⟩⟩
theorem pd_pt4 {v0 v1 v2 v3 : Int} (hn : 0 ≤ n) (t1 : h 1 1 = n) (t2 : ∀ i : Nat, (i : Int) < n → h 2 i = T i) (i : Nat) (hi : (i : Int) < n + 4) :
    bc_up (bc_up (bc_up (bc_up (bc_up (bc_up (bc_up (bc_up h 2 n.toNat v0) 1 1 (n + 1)) 2 (n + 1).toNat v1) 1 1 (n + 1 + 1)) 2 (n + 2).toNat v2) 1 1 (n + 2 + 1)) 2 (n + 3).toNat v3) 1 1 (n + 3 + 1) 2 i = if (i : Int) = n then v0 else if (i : Int) = n + 1 then v1 else if (i : Int) = n + 2 then v2 else if (i : Int) = n + 3 then v3 else T i := by
  unfold bc_up
  simp only [Nat.reduceEqDiff, false_and, if_false, true_and, eq_self]
  have e0 : ((i : Int) = n) = (i = n.toNat) := propext (by omega)
  have e1 : ((i : Int) = n + 1) = (i = (n + 1).toNat) := propext (by omega)
  have e2 : ((i : Int) = n + 2) = (i = (n + 2).toNat) := propext (by omega)
  have e3 : ((i : Int) = n + 3) = (i = (n + 3).toNat) := propext (by omega)
  simp only [e0, e1, e2, e3]
  simp only [↓reduceIte]
  by_cases q3 : i = (n + 3).toNat
  · have a0 : ¬ i = n.toNat := by omega
    have a1 : ¬ i = (n + 1).toNat := by omega
    have a2 : ¬ i = (n + 2).toNat := by omega
    simp only [if_pos q3, if_neg a0, if_neg a1, if_neg a2]
  · by_cases q2 : i = (n + 2).toNat
    · have a0 : ¬ i = n.toNat := by omega
      have a1 : ¬ i = (n + 1).toNat := by omega
      simp only [if_neg q3, if_pos q2, if_neg a0, if_neg a1]
    · by_cases q1 : i = (n + 1).toNat
      · have a0 : ¬ i = n.toNat := by omega
        simp only [if_neg q3, if_neg q2, if_pos q1, if_neg a0]
      · by_cases q0 : i = n.toNat
        · simp only [if_neg q3, if_neg q2, if_neg q1, if_pos q0]
        · simp only [if_neg q3, if_neg q2, if_neg q1, if_neg q0]
          exact t2 i (by omega)
theorem c5_put (hT : pd_TC T n h) (hn : 0 ≤ n ∧ n ≤ 436) (kk : ∀ h', pd_TC (pd_pt T n w) (n + 4) h' → (∀ c : Nat, c ≠ 1 → c ≠ 2 → h' c = h c) → post none h') : bc_OK (d + 1) 51 [.inr (.inr 1), .inl w] h post := by
  obtain ⟨t1, t2⟩ := hT
  refine bc_run (n := 3) ck_X5_put rfl rfl rfl rfl (Nat.le_of_ble_eq_true rfl) ?_
  simp -implicitDefEqProofs only [k_X5_put, ↓vl_iconst, ↓vl_bipush, ↓vl_sipush, ↓vl_lconst, ↓vl_ldc, ↓vl_ldcw, ↓vl_ldc2, ↓vl_iload0, ↓vl_aload0, ↓vl_istore0, ↓vl_iinc0, ↓vl_iload1, ↓vl_aload1, ↓vl_istore1, ↓vl_iinc1, ↓vl_iload2, ↓vl_aload2, ↓vl_istore2, ↓vl_iinc2, ↓vl_iload3, ↓vl_aload3, ↓vl_istore3, ↓vl_iinc3, ↓vl_iload4, ↓vl_istore4, ↓vl_iinc4, ↓vl_iload5, ↓vl_istore5, ↓vl_iinc5, ↓vl_iload6, ↓vl_istore6, ↓vl_iinc6, ↓vl_iload7, ↓vl_istore7, ↓vl_iinc7, ↓vl_lload5, ↓vl_lstore5, ↓vl_iadd, ↓vl_isub, ↓vl_imul, ↓vl_iand, ↓vl_ior, ↓vl_ixor, ↓vl_ishl, ↓vl_ishr, ↓vl_iushr, ↓vl_idiv, ↓vl_irem, ↓vl_ladd, ↓vl_lsub, ↓vl_lmul, ↓vl_lcmp, ↓vl_i2l, ↓vl_dup, ↓vl_dup2, ↓vl_gotoF, ↓vl_gotoB, ↓vl_nnF, ↓vl_ic_eqF, ↓vl_if_eqF, ↓vl_ic_eqB, ↓vl_if_eqB, ↓vl_ic_neF, ↓vl_if_neF, ↓vl_ic_neB, ↓vl_if_neB, ↓vl_ic_ltF, ↓vl_if_ltF, ↓vl_ic_ltB, ↓vl_if_ltB, ↓vl_ic_geF, ↓vl_if_geF, ↓vl_ic_geB, ↓vl_if_geB, ↓vl_ic_gtF, ↓vl_if_gtF, ↓vl_ic_gtB, ↓vl_if_gtB, ↓vl_ic_leF, ↓vl_if_leF, ↓vl_ic_leB, ↓vl_if_leB, ↓vl_sw, ↓vl_get, ↓vl_putI, ↓vl_putL, ↓vl_iald, ↓vl_iast, ↓vl_alen, ↓vl_aald, ↓vl_iretI, ↓vl_iretZ, ↓vl_ret, ↓vl_mark, ↓vl_markT, ↓vl_skip, ↓vl_st0, ↓vl_vi0, ↓vl_st1, ↓vl_vi1, ↓vl_st2, ↓vl_vi2, ↓vl_st3, ↓vl_vi3, ↓vl_st4, ↓vl_vi4, ↓vl_st5, ↓vl_vi5, ↓vl_st6, ↓vl_vi6, ↓vl_min, ↓vl_max, ↓vl_cpy, ↓vk_kvs, ↓vk_kvn, ↓vk_gf0, ↓vk_gv0, ↓vk_gv1, ↓vk_gv2, ↓vk_pf, ↓vk_ar, ↓vk_arr, bc_lay, bc_fn, bc_mk, bc_cs, bc_cat, bc_nl, bc_nth, bc_en, bc_sw, true_and, and_true, ↓reduceIte, reduceCtorEq, Nat.reduceEqDiff, Nat.reduceLeDiff, Nat.reduceAdd, Nat.le_refl, Nat.zero_le, Int.cast_ofNat_Int, Int.reduceEq, eq_self, true_implies, false_implies, not_true_eq_false, not_false_eq_true, bc_vr, Int.reduceToNat, Int.toNat_natCast, Int.reduceLE, Int.reduceLT, Int.reduceNeg, true_or, or_true, forall_const, Int.reduceAdd]
  refine l5_put (L := n) (s := 24) (by omega) (by omega) t1 ?_
  refine l5_put (L := n + 1) (s := 16) (by omega) (by omega) (by simp [bc_up]) ?_
  refine l5_put (L := n + 2) (s := 8) (by omega) (by omega) (by simp [bc_up]; omega) ?_
  refine l5_put (L := n + 3) (s := 0) (by omega) (by omega) (by simp [bc_up]; omega) ?_
  refine at_X5_put_3 ?_
  generalize e0 : bc_and (bc_ushr w 24) 255 = v0
  generalize e1 : bc_and (bc_ushr w 16) 255 = v1
  generalize e2 : bc_and (bc_ushr w 8) 255 = v2
  generalize e3 : bc_and (bc_ushr w 0) 255 = v3
  simp -implicitDefEqProofs only [ks_X5_put_3, ↓vl_iconst, ↓vl_bipush, ↓vl_sipush, ↓vl_lconst, ↓vl_ldc, ↓vl_ldcw, ↓vl_ldc2, ↓vl_iload0, ↓vl_aload0, ↓vl_istore0, ↓vl_iinc0, ↓vl_iload1, ↓vl_aload1, ↓vl_istore1, ↓vl_iinc1, ↓vl_iload2, ↓vl_aload2, ↓vl_istore2, ↓vl_iinc2, ↓vl_iload3, ↓vl_aload3, ↓vl_istore3, ↓vl_iinc3, ↓vl_iload4, ↓vl_istore4, ↓vl_iinc4, ↓vl_iload5, ↓vl_istore5, ↓vl_iinc5, ↓vl_iload6, ↓vl_istore6, ↓vl_iinc6, ↓vl_iload7, ↓vl_istore7, ↓vl_iinc7, ↓vl_lload5, ↓vl_lstore5, ↓vl_iadd, ↓vl_isub, ↓vl_imul, ↓vl_iand, ↓vl_ior, ↓vl_ixor, ↓vl_ishl, ↓vl_ishr, ↓vl_iushr, ↓vl_idiv, ↓vl_irem, ↓vl_ladd, ↓vl_lsub, ↓vl_lmul, ↓vl_lcmp, ↓vl_i2l, ↓vl_dup, ↓vl_dup2, ↓vl_gotoF, ↓vl_gotoB, ↓vl_nnF, ↓vl_ic_eqF, ↓vl_if_eqF, ↓vl_ic_eqB, ↓vl_if_eqB, ↓vl_ic_neF, ↓vl_if_neF, ↓vl_ic_neB, ↓vl_if_neB, ↓vl_ic_ltF, ↓vl_if_ltF, ↓vl_ic_ltB, ↓vl_if_ltB, ↓vl_ic_geF, ↓vl_if_geF, ↓vl_ic_geB, ↓vl_if_geB, ↓vl_ic_gtF, ↓vl_if_gtF, ↓vl_ic_gtB, ↓vl_if_gtB, ↓vl_ic_leF, ↓vl_if_leF, ↓vl_ic_leB, ↓vl_if_leB, ↓vl_sw, ↓vl_get, ↓vl_putI, ↓vl_putL, ↓vl_iald, ↓vl_iast, ↓vl_alen, ↓vl_aald, ↓vl_iretI, ↓vl_iretZ, ↓vl_ret, ↓vl_mark, ↓vl_markT, ↓vl_skip, ↓vl_st0, ↓vl_vi0, ↓vl_st1, ↓vl_vi1, ↓vl_st2, ↓vl_vi2, ↓vl_st3, ↓vl_vi3, ↓vl_st4, ↓vl_vi4, ↓vl_st5, ↓vl_vi5, ↓vl_st6, ↓vl_vi6, ↓vl_min, ↓vl_max, ↓vl_cpy, ↓vk_kvs, ↓vk_kvn, ↓vk_gf0, ↓vk_gv0, ↓vk_gv1, ↓vk_gv2, ↓vk_pf, ↓vk_ar, ↓vk_arr, bc_lay, bc_fn, bc_mk, bc_cs, bc_cat, bc_nl, bc_nth, bc_en, bc_sw, true_and, and_true, ↓reduceIte, reduceCtorEq, Nat.reduceEqDiff, Nat.reduceLeDiff, Nat.reduceAdd, Nat.le_refl, Nat.zero_le, Int.cast_ofNat_Int, Int.reduceEq, eq_self, true_implies, false_implies, not_true_eq_false, not_false_eq_true, bc_vr, Int.reduceToNat, Int.toNat_natCast, Int.reduceLE, Int.reduceLT, Int.reduceNeg, true_or, or_true, forall_const, Int.reduceAdd]
  refine kk _ ⟨by simp [bc_up]; omega, fun i hi => ?_⟩ (fun c c1 c2 => by rw [bc_up_row c1, bc_up_row c2, bc_up_row c1, bc_up_row c2, bc_up_row c1, bc_up_row c2, bc_up_row c1, bc_up_row c2])
  rw [pd_pt, e0, e1, e2, e3]
  exact pd_pt4 (by omega) t1 t2 i hi
end Feed
