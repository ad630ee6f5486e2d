/-! Desk.copy, clear; Past.keep, restore, forget -/
theorem bc_cpy_row {h : bc_AH} {a b n c : Nat} (hc : c ≠ b) : bc_cpy h a b n c = h c := by
  funext q
  simp [bc_cpy, hc]
theorem bc_cpy_at {h : bc_AH} {a b n j : Nat} (hj : j < n) : bc_cpy h a b n b j = h a j := by
  simp [bc_cpy, hj]
theorem bc_up_at {h : bc_AH} {k j : Nat} {v : Int} : bc_up h k j v k j = v := by
  simp [bc_up]
theorem bc_up_nj {h : bc_AH} {k j i : Nat} {v : Int} (hj : i ≠ j) : bc_up h k j v k i = h k i := by
  simp [bc_up, hj]
/-- a is the cell of a desk -/
def pd_DL (a : Nat) : Prop := bc_lay a = (0, 1, [(2, a + 1), (2, a + 2), (2, a + 3), (2, a + 4), (2, a + 5), (2, a + 6), (2, a + 7), (2, a + 8), (0, 0), (0, 0), (0, 0), (0, 0), (0, 0), (0, 0), (0, 0)]) ∧ bc_lay (a + 1) = (1, 24, []) ∧ bc_lay (a + 2) = (1, 24, []) ∧ bc_lay (a + 3) = (1, 24, []) ∧ bc_lay (a + 4) = (1, 24, []) ∧ bc_lay (a + 5) = (1, 24, []) ∧ bc_lay (a + 6) = (1, 24, []) ∧ bc_lay (a + 7) = (1, 24, []) ∧ bc_lay (a + 8) = (1, 24, [])
def pd_copied (a b : Nat) (h h' : bc_AH) : Prop := (∀ c : Nat, c < a ∨ a + 8 < c → h' c = h c) ∧ (∀ i : Nat, 1 ≤ i → i ≤ 8 → ∀ j : Nat, j < 24 → h' (a + i) j = h (b + i) j) ∧ ∀ j : Nat, 8 ≤ j → j ≤ 14 → h' a j = h b j
section Copy
variable {d : Nat} {h : bc_AH} {post : Option bc_AV → bc_AH → Prop} {T D : Nat → Int} {n F : Int} {Hs : List (Nat → Int)}
set_option maxRecDepth 20000 in
theorem c1_copy {a b : Nat} (ha : pd_DL a) (hb : pd_DL b) (hab : a + 8 < b ∨ b + 8 < a) (kk : ∀ h', pd_copied a b h h' → post none h') : bc_OK (d + 1) 13 [.inr (.inr a), .inr (.inr b)] h post := by
  obtain ⟨a0, a1, a2, a3, a4, a5, a6, a7, a8⟩ := ha
  obtain ⟨b0, b1, b2, b3, b4, b5, b6, b7, b8⟩ := hb
  refine bc_run (n := 2) ck_X1_copy rfl rfl rfl rfl (Nat.le_of_ble_eq_true rfl) ?_
  simp -implicitDefEqProofs only [k_X1_copy, ↓vl_iconst, ↓vl_bipush, ↓vl_sipush, ↓vl_lconst, ↓vl_ldc, ↓vl_ldcw, ↓vl_ldc2, ↓vl_iload0, ↓vl_aload0, ↓vl_istore0, ↓vl_iinc0, ↓vl_iload1, ↓vl_aload1, ↓vl_istore1, ↓vl_iinc1, ↓vl_iload2, ↓vl_aload2, ↓vl_istore2, ↓vl_iinc2, ↓vl_iload3, ↓vl_aload3, ↓vl_istore3, ↓vl_iinc3, ↓vl_iload4, ↓vl_istore4, ↓vl_iinc4, ↓vl_iload5, ↓vl_istore5, ↓vl_iinc5, ↓vl_iload6, ↓vl_istore6, ↓vl_iinc6, ↓vl_iload7, ↓vl_istore7, ↓vl_iinc7, ↓vl_lload5, ↓vl_lstore5, ↓vl_iadd, ↓vl_isub, ↓vl_imul, ↓vl_iand, ↓vl_ior, ↓vl_ixor, ↓vl_ishl, ↓vl_ishr, ↓vl_iushr, ↓vl_idiv, ↓vl_irem, ↓vl_ladd, ↓vl_lsub, ↓vl_lmul, ↓vl_lcmp, ↓vl_i2l, ↓vl_dup, ↓vl_dup2, ↓vl_gotoF, ↓vl_gotoB, ↓vl_nnF, ↓vl_ic_eqF, ↓vl_if_eqF, ↓vl_ic_eqB, ↓vl_if_eqB, ↓vl_ic_neF, ↓vl_if_neF, ↓vl_ic_neB, ↓vl_if_neB, ↓vl_ic_ltF, ↓vl_if_ltF, ↓vl_ic_ltB, ↓vl_if_ltB, ↓vl_ic_geF, ↓vl_if_geF, ↓vl_ic_geB, ↓vl_if_geB, ↓vl_ic_gtF, ↓vl_if_gtF, ↓vl_ic_gtB, ↓vl_if_gtB, ↓vl_ic_leF, ↓vl_if_leF, ↓vl_ic_leB, ↓vl_if_leB, ↓vl_sw, ↓vl_get, ↓vl_putI, ↓vl_putL, ↓vl_iald, ↓vl_iast, ↓vl_alen, ↓vl_aald, ↓vl_iretI, ↓vl_iretZ, ↓vl_ret, ↓vl_mark, ↓vl_markT, ↓vl_skip, ↓vl_st0, ↓vl_vi0, ↓vl_st1, ↓vl_vi1, ↓vl_st2, ↓vl_vi2, ↓vl_st3, ↓vl_vi3, ↓vl_st4, ↓vl_vi4, ↓vl_st5, ↓vl_vi5, ↓vl_st6, ↓vl_vi6, ↓vl_min, ↓vl_max, ↓vl_cpy, ↓vk_kvs, ↓vk_kvn, ↓vk_gf0, ↓vk_gv0, ↓vk_gv1, ↓vk_gv2, ↓vk_pf, ↓vk_ar, ↓vk_arr, bc_fn, bc_mk, bc_cs, bc_cat, bc_nl, bc_nth, bc_en, bc_sw, true_and, and_true, ↓reduceIte, reduceCtorEq, Nat.reduceEqDiff, Nat.reduceLeDiff, Nat.reduceAdd, Nat.le_refl, Nat.zero_le, Int.cast_ofNat_Int, Int.reduceEq, eq_self, true_implies, false_implies, not_true_eq_false, not_false_eq_true, bc_vr, Int.reduceToNat, Int.toNat_natCast, Int.reduceLE, Int.reduceLT, Int.reduceNeg, true_or, or_true, forall_const, Int.reduceAdd, a0, a1, a2, a3, a4, a5, a6, a7, a8, b0, b1, b2, b3, b4, b5, b6, b7, b8]
  refine kk _ ⟨fun c hc => ?_, fun i i1 i8 j hj => ?_, fun j j8 j14 => ?_⟩
  · simp (disch := omega) only [bc_up_row, bc_cpy_row]
  · have e : i = 1 ∨ i = 2 ∨ i = 3 ∨ i = 4 ∨ i = 5 ∨ i = 6 ∨ i = 7 ∨ i = 8 := by omega
    rcases e with rfl | rfl | rfl | rfl | rfl | rfl | rfl | rfl <;> simp (disch := omega) only [bc_up_row, bc_cpy_row, bc_cpy_at]
  · have e : j = 8 ∨ j = 9 ∨ j = 10 ∨ j = 11 ∨ j = 12 ∨ j = 13 ∨ j = 14 := by omega
    rcases e with rfl | rfl | rfl | rfl | rfl | rfl | rfl <;> simp (disch := omega) only [bc_up_row, bc_cpy_row, bc_cpy_at, bc_up_at, bc_up_nj]
end Copy
