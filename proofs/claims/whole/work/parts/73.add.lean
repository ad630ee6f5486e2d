/-! Desk.add -/
def pd_add (D : Nat → Int) (a b c e f : Int) : Nat → Int := fun i => if i = 0 then D 0 + 1 else if i = 7 + 9 * (D 0).toNat then a else if i = 7 + 9 * (D 0).toNat + 1 then b else if i = 7 + 9 * (D 0).toNat + 2 then c else if i = 7 + 9 * (D 0).toNat + 3 then e else if i = 7 + 9 * (D 0).toNat + 4 then f else if 7 + 9 * (D 0).toNat + 5 ≤ i ∧ i ≤ 7 + 9 * (D 0).toNat + 8 then 0 else D i
theorem pd_add_0 {D : Nat → Int} {a b c e f : Int} : pd_add D a b c e f 0 = D 0 + 1 := if_pos rfl
theorem pd_add_lo {D : Nat → Int} {a b c e f : Int} {i : Nat} (h0 : 0 < i) (h1 : i < 7 + 9 * (D 0).toNat) : pd_add D a b c e f i = D i := by
  unfold pd_add
  rw [if_neg (by omega), if_neg (by omega), if_neg (by omega), if_neg (by omega), if_neg (by omega), if_neg (by omega), if_neg (by omega)]
theorem pd_add_hi {D : Nat → Int} {a b c e f : Int} {i : Nat} (h1 : 7 + 9 * (D 0).toNat + 8 < i) : pd_add D a b c e f i = D i := by
  unfold pd_add
  rw [if_neg (by omega), if_neg (by omega), if_neg (by omega), if_neg (by omega), if_neg (by omega), if_neg (by omega), if_neg (by omega)]
theorem pd_add_at {D : Nat → Int} {a b c e f : Int} : pd_add D a b c e f (7 + 9 * (D 0).toNat) = a ∧ pd_add D a b c e f (7 + 9 * (D 0).toNat + 1) = b ∧ pd_add D a b c e f (7 + 9 * (D 0).toNat + 2) = c ∧ pd_add D a b c e f (7 + 9 * (D 0).toNat + 3) = e ∧ pd_add D a b c e f (7 + 9 * (D 0).toNat + 4) = f ∧ pd_add D a b c e f (7 + 9 * (D 0).toNat + 5) = 0 ∧ pd_add D a b c e f (7 + 9 * (D 0).toNat + 6) = 0 ∧ pd_add D a b c e f (7 + 9 * (D 0).toNat + 7) = 0 ∧ pd_add D a b c e f (7 + 9 * (D 0).toNat + 8) = 0 := by
  unfold pd_add
  refine ⟨?_, ?_, ?_, ?_, ?_, ?_, ?_, ?_, ?_⟩
  · rw [if_neg (by omega), if_pos (by omega)]
  · rw [if_neg (by omega), if_neg (by omega), if_pos (by omega)]
  · rw [if_neg (by omega), if_neg (by omega), if_neg (by omega), if_pos (by omega)]
  · rw [if_neg (by omega), if_neg (by omega), if_neg (by omega), if_neg (by omega), if_pos (by omega)]
  · rw [if_neg (by omega), if_neg (by omega), if_neg (by omega), if_neg (by omega), if_neg (by omega), if_pos (by omega)]
  all_goals rw [if_neg (by omega), if_neg (by omega), if_neg (by omega), if_neg (by omega), if_neg (by omega), if_neg (by omega), if_pos (by omega)]
section Add
variable {d : Nat} {h : bc_AH} {post : Option bc_AV → bc_AH → Prop} {D : Nat → Int}
set_option maxRecDepth 20000 in
theorem c1_add {a : Nat} (ha : pd_DL a) (hC : pd_C a D h) (h0 : 0 ≤ D 0 ∧ D 0 < 24) {v0 v1 v2 v3 v4 : Int} (kk : ∀ h', pd_C a (pd_add D v0 v1 v2 v3 v4) h' → (∀ c : Nat, c < a ∨ a + 8 < c → h' c = h c) → post none h') : bc_OK (d + 1) 14 [.inr (.inr a), .inl v0, .inl v1, .inl v2, .inl v3, .inl v4] h post := by
  obtain ⟨a0, a1, a2, a3, a4, a5, a6, a7, a8⟩ := ha
  obtain ⟨⟨e0, e1, e2, e3, e4, e5, e6⟩, hr⟩ := hC
  refine bc_run (n := 6) ck_X1_add rfl rfl rfl rfl (Nat.le_of_ble_eq_true rfl) ?_
  simp -implicitDefEqProofs (disch := omega) only [k_X1_add, ↓vl_iconst, ↓vl_bipush, ↓vl_sipush, ↓vl_lconst, ↓vl_ldc, ↓vl_ldcw, ↓vl_ldc2, ↓vl_iload0, ↓vl_aload0, ↓vl_istore0, ↓vl_iinc0, ↓vl_iload1, ↓vl_aload1, ↓vl_istore1, ↓vl_iinc1, ↓vl_iload2, ↓vl_aload2, ↓vl_istore2, ↓vl_iinc2, ↓vl_iload3, ↓vl_aload3, ↓vl_istore3, ↓vl_iinc3, ↓vl_iload4, ↓vl_istore4, ↓vl_iinc4, ↓vl_iload5, ↓vl_istore5, ↓vl_iinc5, ↓vl_iload6, ↓vl_istore6, ↓vl_iinc6, ↓vl_iload7, ↓vl_istore7, ↓vl_iinc7, ↓vl_lload5, ↓vl_lstore5, ↓vl_iadd, ↓vl_isub, ↓vl_imul, ↓vl_iand, ↓vl_ior, ↓vl_ixor, ↓vl_ishl, ↓vl_ishr, ↓vl_iushr, ↓vl_idiv, ↓vl_irem, ↓vl_ladd, ↓vl_lsub, ↓vl_lmul, ↓vl_lcmp, ↓vl_i2l, ↓vl_dup, ↓vl_dup2, ↓vl_gotoF, ↓vl_gotoB, ↓vl_nnF, ↓vl_ic_eqF, ↓vl_if_eqF, ↓vl_ic_eqB, ↓vl_if_eqB, ↓vl_ic_neF, ↓vl_if_neF, ↓vl_ic_neB, ↓vl_if_neB, ↓vl_ic_ltF, ↓vl_if_ltF, ↓vl_ic_ltB, ↓vl_if_ltB, ↓vl_ic_geF, ↓vl_if_geF, ↓vl_ic_geB, ↓vl_if_geB, ↓vl_ic_gtF, ↓vl_if_gtF, ↓vl_ic_gtB, ↓vl_if_gtB, ↓vl_ic_leF, ↓vl_if_leF, ↓vl_ic_leB, ↓vl_if_leB, ↓vl_sw, ↓vl_get, ↓vl_putI, ↓vl_putL, ↓vl_iald, ↓vl_iast, ↓vl_alen, ↓vl_aald, ↓vl_iretI, ↓vl_iretZ, ↓vl_ret, ↓vl_mark, ↓vl_markT, ↓vl_skip, ↓vl_st0, ↓vl_vi0, ↓vl_st1, ↓vl_vi1, ↓vl_st2, ↓vl_vi2, ↓vl_st3, ↓vl_vi3, ↓vl_st4, ↓vl_vi4, ↓vl_st5, ↓vl_vi5, ↓vl_st6, ↓vl_vi6, ↓vl_min, ↓vl_max, ↓vl_cpy, ↓vk_kvs, ↓vk_kvn, ↓vk_gf0, ↓vk_gv0, ↓vk_gv1, ↓vk_gv2, ↓vk_pf, ↓vk_ar, ↓vk_arr, bc_fn, bc_mk, bc_cs, bc_cat, bc_nl, bc_nth, bc_en, bc_sw, true_and, and_true, ↓reduceIte, reduceCtorEq, Nat.reduceEqDiff, Nat.reduceLeDiff, Nat.reduceAdd, Nat.le_refl, Nat.zero_le, Int.cast_ofNat_Int, Int.reduceEq, eq_self, true_implies, false_implies, not_true_eq_false, not_false_eq_true, bc_vr, Int.reduceToNat, Int.toNat_natCast, Int.reduceLE, Int.reduceLT, Int.reduceNeg, true_or, or_true, forall_const, Int.reduceAdd, a0, a1, a2, a3, a4, a5, a6, a7, a8, e0, bc_up_row]
  refine ⟨⟨by omega, by omega⟩, fun c => absurd c (by omega), fun _ => ⟨⟨by omega, by omega⟩, fun _ => ⟨by omega, by omega, by omega, by omega, by omega, by omega, by omega, by omega, by omega, by omega, by omega, by omega, by omega, by omega, by omega, by omega, ?_⟩, fun c => absurd c (by omega)⟩⟩
  refine kk _ ⟨⟨?_, ?_, ?_, ?_, ?_, ?_, ?_⟩, fun o ho => ?_⟩ (fun c hc => ?_)
  · rw [bc_up_at, pd_add_0]
  · simp (disch := omega) only [bc_up_nj, bc_up_row, pd_add_lo]; exact e1
  · simp (disch := omega) only [bc_up_nj, bc_up_row, pd_add_lo]; exact e2
  · simp (disch := omega) only [bc_up_nj, bc_up_row, pd_add_lo]; exact e3
  · simp (disch := omega) only [bc_up_nj, bc_up_row, pd_add_lo]; exact e4
  · simp (disch := omega) only [bc_up_nj, bc_up_row, pd_add_lo]; exact e5
  · simp (disch := omega) only [bc_up_nj, bc_up_row, pd_add_lo]; exact e6
  · rw [pd_add_0] at ho
    by_cases z : o = (D 0).toNat
    · subst z
      obtain ⟨q0, q1, q2, q3, q4, q5, q6, q7, q8⟩ := pd_add_at (D := D) (a := v0) (b := v1) (c := v2) (e := v3) (f := v4)
      rw [q0, q1, q2, q3, q4, q5, q7, q8]
      simp (disch := omega) only [bc_up_row, bc_up_at, and_self]
    · have q := hr o (by omega)
      simp (disch := omega) only [bc_up_row, bc_up_nj, pd_add_lo]
      exact q
  · simp (disch := omega) only [bc_up_row]
end Add
