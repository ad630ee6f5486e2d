theorem pd_C_copied {a b : Nat} {h h' : bc_AH} {E : Nat → Int} (hc : pd_copied a b h h') (hC : pd_C b E h) (h24 : E 0 ≤ 24) : pd_C a E h' := by
  obtain ⟨-, c2, c3⟩ := hc
  obtain ⟨⟨e0, e1, e2, e3, e4, e5, e6⟩, hr⟩ := hC
  refine ⟨⟨by rw [c3 8 (by omega) (by omega)]; exact e0, by rw [c3 9 (by omega) (by omega)]; exact e1, by rw [c3 10 (by omega) (by omega)]; exact e2, by rw [c3 11 (by omega) (by omega)]; exact e3, by rw [c3 12 (by omega) (by omega)]; exact e4, by rw [c3 13 (by omega) (by omega)]; exact e5, by rw [c3 14 (by omega) (by omega)]; exact e6⟩, fun o ho => ?_⟩
  have := hr o ho
  rw [c2 1 (by omega) (by omega) o (by omega), c2 2 (by omega) (by omega) o (by omega), c2 3 (by omega) (by omega) o (by omega), c2 4 (by omega) (by omega) o (by omega), c2 5 (by omega) (by omega) o (by omega), c2 6 (by omega) (by omega) o (by omega), c2 7 (by omega) (by omega) o (by omega), c2 8 (by omega) (by omega) o (by omega)]
  exact this
theorem pd_DL_4 : pd_DL 4 := by unfold pd_DL; exact ⟨rfl, rfl, rfl, rfl, rfl, rfl, rfl, rfl, rfl⟩
theorem pd_DL_13 : pd_DL 13 := by unfold pd_DL; exact ⟨rfl, rfl, rfl, rfl, rfl, rfl, rfl, rfl, rfl⟩
theorem pd_DL_k : ∀ i : Nat, i < 8 → pd_DL (32 + 9 * i) := by
  intro i hi
  have e : i = 0 ∨ i = 1 ∨ i = 2 ∨ i = 3 ∨ i = 4 ∨ i = 5 ∨ i = 6 ∨ i = 7 := by omega
  rcases e with rfl | rfl | rfl | rfl | rfl | rfl | rfl | rfl <;> (unfold pd_DL; exact ⟨rfl, rfl, rfl, rfl, rfl, rfl, rfl, rfl, rfl⟩)
def pd_push (D : Nat → Int) (Hs : List (Nat → Int)) : List (Nat → Int) := (D :: Hs).take 8
theorem pd_push_len {D : Nat → Int} {Hs : List (Nat → Int)} (h : Hs.length ≤ 8) : ((pd_push D Hs).length : Int) = min ((Hs.length : Int) + 1) 8 := by
  unfold pd_push
  rw [List.length_take, List.length_cons]
  omega
/-- the class's history after keep, however its cells came to be -/
theorem pd_HC_push {D : Nat → Int} {Hs : List (Nat → Int)} {h h' : bc_AH} {nx : Nat} (hnx : nx < 8) (hlen : Hs.length ≤ 8) (a4 : ∀ (j : Nat) (E : Nat → Int), Hs[j]? = some E → pd_C (32 + 9 * ((nx + 7 - j) % 8)) E h) (hC : pd_C 4 D h) (h24 : D 0 ≤ 24) (hc : ∀ c : Nat, c < 30 ∨ 30 < c → c < 32 + 9 * nx ∨ 32 + 9 * nx + 8 < c → h' c = h c) (hcp : pd_C (32 + 9 * nx) D h') (e1 : h' 30 1 = ((nx : Int) + 1) % 8) (e2 : h' 30 2 = min ((Hs.length : Int) + 1) 8) : pd_HC (pd_push D Hs) h' := by
  refine ⟨(nx + 1) % 8, Nat.mod_lt _ (by omega), by rw [e1]; omega, by rw [e2, pd_push_len hlen], fun j E hE => ?_⟩
  unfold pd_push at hE
  rw [List.getElem?_take] at hE
  by_cases hj8 : j < 8
  · rw [if_pos hj8] at hE
    cases j with
    | zero =>
      rw [List.getElem?_cons_zero] at hE
      have e : D = E := by simpa using hE
      rw [← e]
      have : ((nx + 1) % 8 + 7 - 0) % 8 = nx := by omega
      rw [this]; exact hcp
    | succ j =>
      rw [List.getElem?_cons_succ] at hE
      have e : ((nx + 1) % 8 + 7 - (j + 1)) % 8 = (nx + 7 - j) % 8 := by omega
      rw [e]
      have lt : (nx + 7 - j) % 8 < 8 := Nat.mod_lt _ (by omega)
      have ne : (nx + 7 - j) % 8 ≠ nx := by omega
      exact pd_C_fr (a4 j E hE) (fun q x y => hc q (by omega) (by omega))
  · rw [if_neg hj8] at hE
    simp at hE
theorem pd_kept_at : ∀ nx : Nat, nx < 8 → ([(2, 32), (2, 41), (2, 50), (2, 59), (2, 68), (2, 77), (2, 86), (2, 95)].getD nx ((0, 0) : Nat × Nat)).2 = 32 + 9 * nx := by decide +kernel
section Keep
variable {d : Nat} {h : bc_AH} {post : Option bc_AV → bc_AH → Prop} {T D : Nat → Int} {n F : Int} {Hs : List (Nat → Int)}
theorem c2_keep (hC : pd_C 4 D h) (hV : pd_V D) (hH : pd_HC Hs h) (hlen : Hs.length ≤ 8) (kk : ∀ h', pd_HC (pd_push D Hs) h' → (∀ c : Nat, c < 30 ∨ 103 < c → h' c = h c) → post none h') : bc_OK (d + 2) 26 [.inr (.inr 30), .inr (.inr 4)] h post := by
  have v0 := hV.1
  obtain ⟨nx, a1, a2, a3, a4⟩ := hH
  have cp : ∀ (post2 : Option bc_AV → bc_AH → Prop), (∀ h2, pd_copied (32 + 9 * nx) 4 h h2 → post2 none h2) → bc_OK (d + 1) 13 [.inr (.inr (32 + 9 * nx)), .inr (.inr 4)] h post2 := fun post2 k2 => c1_copy (pd_DL_k nx a1) pd_DL_4 (by omega) k2
  have fin : ∀ h2, pd_copied (32 + 9 * nx) 4 h h2 → post none (bc_up (bc_up h2 30 1 (((nx : Int) + 1) % 8)) 30 2 (min ((Hs.length : Int) + 1) 8)) := fun h2 hc => by
    refine kk _ (pd_HC_push (nx := nx) a1 hlen a4 hC (by omega) (fun c x y => ?_) ?_ ?_ ?_) (fun c x => ?_)
    · rw [bc_up_row (by omega), bc_up_row (by omega)]; exact hc.1 c y
    · exact pd_C_fr (pd_C_copied hc hC (by omega)) (fun q x y => by rw [bc_up_row (by omega), bc_up_row (by omega)])
    · rw [bc_up_nj (by omega), bc_up_at]
    · rw [bc_up_at]
    · rw [bc_up_row (by omega), bc_up_row (by omega)]; exact hc.1 c (by omega)
  have f30 : ∀ h2, pd_copied (32 + 9 * nx) 4 h h2 → h2 30 1 = (nx : Int) ∧ h2 30 2 = (Hs.length : Int) := fun h2 hc => by
    rw [hc.1 30 (by omega)]; exact ⟨a2, a3⟩
  have eg := pd_kept_at nx a1
  have l30 : bc_lay 30 = (0, 2, [(2, 31), (0, 0), (0, 0)]) := rfl
  have l31 : bc_lay 31 = (3, 8, [(2, 32), (2, 41), (2, 50), (2, 59), (2, 68), (2, 77), (2, 86), (2, 95)]) := rfl
  have lk := (pd_DL_k nx a1).1
  refine bc_run (n := 2) ck_X2_keep rfl rfl rfl rfl (Nat.le_of_ble_eq_true rfl) ?_
  simp -implicitDefEqProofs only [k_X2_keep, ↓vl_iconst, ↓vl_bipush, ↓vl_sipush, ↓vl_lconst, ↓vl_ldc, ↓vl_ldcw, ↓vl_ldc2, ↓vl_iload0, ↓vl_aload0, ↓vl_istore0, ↓vl_iinc0, ↓vl_iload1, ↓vl_aload1, ↓vl_istore1, ↓vl_iinc1, ↓vl_iload2, ↓vl_aload2, ↓vl_istore2, ↓vl_iinc2, ↓vl_iload3, ↓vl_aload3, ↓vl_istore3, ↓vl_iinc3, ↓vl_iload4, ↓vl_istore4, ↓vl_iinc4, ↓vl_iload5, ↓vl_istore5, ↓vl_iinc5, ↓vl_iload6, ↓vl_istore6, ↓vl_iinc6, ↓vl_iload7, ↓vl_istore7, ↓vl_iinc7, ↓vl_lload5, ↓vl_lstore5, ↓vl_iadd, ↓vl_isub, ↓vl_imul, ↓vl_iand, ↓vl_ior, ↓vl_ixor, ↓vl_ishl, ↓vl_ishr, ↓vl_iushr, ↓vl_idiv, ↓vl_irem, ↓vl_ladd, ↓vl_lsub, ↓vl_lmul, ↓vl_lcmp, ↓vl_i2l, ↓vl_dup, ↓vl_dup2, ↓vl_gotoF, ↓vl_gotoB, ↓vl_nnF, ↓vl_ic_eqF, ↓vl_if_eqF, ↓vl_ic_eqB, ↓vl_if_eqB, ↓vl_ic_neF, ↓vl_if_neF, ↓vl_ic_neB, ↓vl_if_neB, ↓vl_ic_ltF, ↓vl_if_ltF, ↓vl_ic_ltB, ↓vl_if_ltB, ↓vl_ic_geF, ↓vl_if_geF, ↓vl_ic_geB, ↓vl_if_geB, ↓vl_ic_gtF, ↓vl_if_gtF, ↓vl_ic_gtB, ↓vl_if_gtB, ↓vl_ic_leF, ↓vl_if_leF, ↓vl_ic_leB, ↓vl_if_leB, ↓vl_sw, ↓vl_get, ↓vl_putI, ↓vl_putL, ↓vl_iald, ↓vl_iast, ↓vl_alen, ↓vl_aald, ↓vl_iretI, ↓vl_iretZ, ↓vl_ret, ↓vl_mark, ↓vl_markT, ↓vl_skip, ↓vl_st0, ↓vl_vi0, ↓vl_st1, ↓vl_vi1, ↓vl_st2, ↓vl_vi2, ↓vl_st3, ↓vl_vi3, ↓vl_st4, ↓vl_vi4, ↓vl_st5, ↓vl_vi5, ↓vl_st6, ↓vl_vi6, ↓vl_min, ↓vl_max, ↓vl_cpy, ↓vk_kvs, ↓vk_kvn, ↓vk_gf0, ↓vk_gv0, ↓vk_gv1, ↓vk_gv2, ↓vk_pf, ↓vk_ar, ↓vk_arr, bc_fn, bc_mk, bc_cs, bc_cat, bc_nl, bc_nth, bc_en, bc_sw, true_and, and_true, ↓reduceIte, reduceCtorEq, Nat.reduceEqDiff, Nat.reduceLeDiff, Nat.reduceAdd, Nat.le_refl, Nat.zero_le, Int.cast_ofNat_Int, Int.reduceEq, eq_self, true_implies, false_implies, not_true_eq_false, not_false_eq_true, bc_vr, Int.reduceToNat, Int.toNat_natCast, Int.reduceLE, Int.reduceLT, Int.reduceNeg, true_or, or_true, forall_const, Int.reduceAdd, a2, eg, l30, l31, lk]
  refine ⟨⟨by omega, by omega⟩, fun c => absurd c (by omega), fun _ => ⟨⟨by omega, by omega⟩, fun c => absurd c (by omega), fun _ => ⟨by omega, by omega, by omega, by omega, ?_⟩⟩⟩
  refine cp _ (fun h2 hc => ?_)
  obtain ⟨g1, g2⟩ := f30 h2 hc
  simp -implicitDefEqProofs only [↓vl_iconst, ↓vl_bipush, ↓vl_sipush, ↓vl_lconst, ↓vl_ldc, ↓vl_ldcw, ↓vl_ldc2, ↓vl_iload0, ↓vl_aload0, ↓vl_istore0, ↓vl_iinc0, ↓vl_iload1, ↓vl_aload1, ↓vl_istore1, ↓vl_iinc1, ↓vl_iload2, ↓vl_aload2, ↓vl_istore2, ↓vl_iinc2, ↓vl_iload3, ↓vl_aload3, ↓vl_istore3, ↓vl_iinc3, ↓vl_iload4, ↓vl_istore4, ↓vl_iinc4, ↓vl_iload5, ↓vl_istore5, ↓vl_iinc5, ↓vl_iload6, ↓vl_istore6, ↓vl_iinc6, ↓vl_iload7, ↓vl_istore7, ↓vl_iinc7, ↓vl_lload5, ↓vl_lstore5, ↓vl_iadd, ↓vl_isub, ↓vl_imul, ↓vl_iand, ↓vl_ior, ↓vl_ixor, ↓vl_ishl, ↓vl_ishr, ↓vl_iushr, ↓vl_idiv, ↓vl_irem, ↓vl_ladd, ↓vl_lsub, ↓vl_lmul, ↓vl_lcmp, ↓vl_i2l, ↓vl_dup, ↓vl_dup2, ↓vl_gotoF, ↓vl_gotoB, ↓vl_nnF, ↓vl_ic_eqF, ↓vl_if_eqF, ↓vl_ic_eqB, ↓vl_if_eqB, ↓vl_ic_neF, ↓vl_if_neF, ↓vl_ic_neB, ↓vl_if_neB, ↓vl_ic_ltF, ↓vl_if_ltF, ↓vl_ic_ltB, ↓vl_if_ltB, ↓vl_ic_geF, ↓vl_if_geF, ↓vl_ic_geB, ↓vl_if_geB, ↓vl_ic_gtF, ↓vl_if_gtF, ↓vl_ic_gtB, ↓vl_if_gtB, ↓vl_ic_leF, ↓vl_if_leF, ↓vl_ic_leB, ↓vl_if_leB, ↓vl_sw, ↓vl_get, ↓vl_putI, ↓vl_putL, ↓vl_iald, ↓vl_iast, ↓vl_alen, ↓vl_aald, ↓vl_iretI, ↓vl_iretZ, ↓vl_ret, ↓vl_mark, ↓vl_markT, ↓vl_skip, ↓vl_st0, ↓vl_vi0, ↓vl_st1, ↓vl_vi1, ↓vl_st2, ↓vl_vi2, ↓vl_st3, ↓vl_vi3, ↓vl_st4, ↓vl_vi4, ↓vl_st5, ↓vl_vi5, ↓vl_st6, ↓vl_vi6, ↓vl_min, ↓vl_max, ↓vl_cpy, ↓vk_kvs, ↓vk_kvn, ↓vk_gf0, ↓vk_gv0, ↓vk_gv1, ↓vk_gv2, ↓vk_pf, ↓vk_ar, ↓vk_arr, bc_lay, bc_fn, bc_mk, bc_cs, bc_cat, bc_nl, bc_nth, bc_en, bc_sw, true_and, and_true, ↓reduceIte, reduceCtorEq, Nat.reduceEqDiff, Nat.reduceLeDiff, Nat.reduceAdd, Nat.le_refl, Nat.zero_le, Int.cast_ofNat_Int, Int.reduceEq, eq_self, true_implies, false_implies, not_true_eq_false, not_false_eq_true, bc_vr, Int.reduceToNat, Int.toNat_natCast, Int.reduceLE, Int.reduceLT, Int.reduceNeg, true_or, or_true, forall_const, Int.reduceAdd, g1, g2]
  have r := fin h2 hc
  have g3 : bc_up h2 30 1 (((nx : Int) + 1) % 8) 30 2 = (Hs.length : Int) := by rw [bc_up_nj (by omega)]; exact g2
  rw [g3]
  exact ⟨by omega, ⟨by omega, by omega⟩, ⟨by omega, by omega⟩, r⟩
theorem c2_forget (kk : post none (bc_up h 30 2 0)) : bc_OK (d + 1) 28 [.inr (.inr 30)] h post := by
  refine bc_run (n := 1) ck_X2_forget rfl rfl rfl rfl (Nat.le_of_ble_eq_true rfl) ?_
  simp -implicitDefEqProofs only [k_X2_forget, ↓vl_iconst, ↓vl_bipush, ↓vl_sipush, ↓vl_lconst, ↓vl_ldc, ↓vl_ldcw, ↓vl_ldc2, ↓vl_iload0, ↓vl_aload0, ↓vl_istore0, ↓vl_iinc0, ↓vl_iload1, ↓vl_aload1, ↓vl_istore1, ↓vl_iinc1, ↓vl_iload2, ↓vl_aload2, ↓vl_istore2, ↓vl_iinc2, ↓vl_iload3, ↓vl_aload3, ↓vl_istore3, ↓vl_iinc3, ↓vl_iload4, ↓vl_istore4, ↓vl_iinc4, ↓vl_iload5, ↓vl_istore5, ↓vl_iinc5, ↓vl_iload6, ↓vl_istore6, ↓vl_iinc6, ↓vl_iload7, ↓vl_istore7, ↓vl_iinc7, ↓vl_lload5, ↓vl_lstore5, ↓vl_iadd, ↓vl_isub, ↓vl_imul, ↓vl_iand, ↓vl_ior, ↓vl_ixor, ↓vl_ishl, ↓vl_ishr, ↓vl_iushr, ↓vl_idiv, ↓vl_irem, ↓vl_ladd, ↓vl_lsub, ↓vl_lmul, ↓vl_lcmp, ↓vl_i2l, ↓vl_dup, ↓vl_dup2, ↓vl_gotoF, ↓vl_gotoB, ↓vl_nnF, ↓vl_ic_eqF, ↓vl_if_eqF, ↓vl_ic_eqB, ↓vl_if_eqB, ↓vl_ic_neF, ↓vl_if_neF, ↓vl_ic_neB, ↓vl_if_neB, ↓vl_ic_ltF, ↓vl_if_ltF, ↓vl_ic_ltB, ↓vl_if_ltB, ↓vl_ic_geF, ↓vl_if_geF, ↓vl_ic_geB, ↓vl_if_geB, ↓vl_ic_gtF, ↓vl_if_gtF, ↓vl_ic_gtB, ↓vl_if_gtB, ↓vl_ic_leF, ↓vl_if_leF, ↓vl_ic_leB, ↓vl_if_leB, ↓vl_sw, ↓vl_get, ↓vl_putI, ↓vl_putL, ↓vl_iald, ↓vl_iast, ↓vl_alen, ↓vl_aald, ↓vl_iretI, ↓vl_iretZ, ↓vl_ret, ↓vl_mark, ↓vl_markT, ↓vl_skip, ↓vl_st0, ↓vl_vi0, ↓vl_st1, ↓vl_vi1, ↓vl_st2, ↓vl_vi2, ↓vl_st3, ↓vl_vi3, ↓vl_st4, ↓vl_vi4, ↓vl_st5, ↓vl_vi5, ↓vl_st6, ↓vl_vi6, ↓vl_min, ↓vl_max, ↓vl_cpy, ↓vk_kvs, ↓vk_kvn, ↓vk_gf0, ↓vk_gv0, ↓vk_gv1, ↓vk_gv2, ↓vk_pf, ↓vk_ar, ↓vk_arr, bc_lay, bc_fn, bc_mk, bc_cs, bc_cat, bc_nl, bc_nth, bc_en, bc_sw, true_and, and_true, ↓reduceIte, reduceCtorEq, Nat.reduceEqDiff, Nat.reduceLeDiff, Nat.reduceAdd, Nat.le_refl, Nat.zero_le, Int.cast_ofNat_Int, Int.reduceEq, eq_self, true_implies, false_implies, not_true_eq_false, not_false_eq_true, bc_vr, Int.reduceToNat, Int.toNat_natCast, Int.reduceLE, Int.reduceLT, Int.reduceNeg, true_or, or_true, forall_const, Int.reduceAdd]
  exact kk
theorem c2_restore (hV : ∀ E ∈ Hs, pd_V E) (hH : pd_HC Hs h) (hlen : Hs.length ≤ 8) (k0 : Hs = [] → post (some (.inl 0)) h) (k1 : ∀ (E : Nat → Int) (Gs : List (Nat → Int)), Hs = E :: Gs → ∀ h', pd_C 4 E h' → pd_HC Gs h' → (∀ c : Nat, c < 4 ∨ (12 < c ∧ c ≠ 30) → h' c = h c) → post (some (.inl 1)) h') : bc_OK (d + 2) 27 [.inr (.inr 30), .inr (.inr 4)] h post := by
  obtain ⟨nx, a1, a2, a3, a4⟩ := hH
  have l30 : bc_lay 30 = (0, 2, [(2, 31), (0, 0), (0, 0)]) := rfl
  have l31 : bc_lay 31 = (3, 8, [(2, 32), (2, 41), (2, 50), (2, 59), (2, 68), (2, 77), (2, 86), (2, 95)]) := rfl
  have l4 := pd_DL_4.1
  obtain ⟨k, ek⟩ : ∃ k : Nat, k = (nx + 7) % 8 := ⟨_, rfl⟩
  have hk : k < 8 := by omega
  have ek2 : ((nx : Int) + 8 - 1) % 8 = (k : Int) := by omega
  have eg := pd_kept_at k hk
  have lk := (pd_DL_k k hk).1
  refine bc_run (n := 3) ck_X2_restore rfl rfl rfl rfl (Nat.le_of_ble_eq_true rfl) ?_
  simp -implicitDefEqProofs only [k_X2_restore, ↓vl_iconst, ↓vl_bipush, ↓vl_sipush, ↓vl_lconst, ↓vl_ldc, ↓vl_ldcw, ↓vl_ldc2, ↓vl_iload0, ↓vl_aload0, ↓vl_istore0, ↓vl_iinc0, ↓vl_iload1, ↓vl_aload1, ↓vl_istore1, ↓vl_iinc1, ↓vl_iload2, ↓vl_aload2, ↓vl_istore2, ↓vl_iinc2, ↓vl_iload3, ↓vl_aload3, ↓vl_istore3, ↓vl_iinc3, ↓vl_iload4, ↓vl_istore4, ↓vl_iinc4, ↓vl_iload5, ↓vl_istore5, ↓vl_iinc5, ↓vl_iload6, ↓vl_istore6, ↓vl_iinc6, ↓vl_iload7, ↓vl_istore7, ↓vl_iinc7, ↓vl_lload5, ↓vl_lstore5, ↓vl_iadd, ↓vl_isub, ↓vl_imul, ↓vl_iand, ↓vl_ior, ↓vl_ixor, ↓vl_ishl, ↓vl_ishr, ↓vl_iushr, ↓vl_idiv, ↓vl_irem, ↓vl_ladd, ↓vl_lsub, ↓vl_lmul, ↓vl_lcmp, ↓vl_i2l, ↓vl_dup, ↓vl_dup2, ↓vl_gotoF, ↓vl_gotoB, ↓vl_nnF, ↓vl_ic_eqF, ↓vl_if_eqF, ↓vl_ic_eqB, ↓vl_if_eqB, ↓vl_ic_neF, ↓vl_if_neF, ↓vl_ic_neB, ↓vl_if_neB, ↓vl_ic_ltF, ↓vl_if_ltF, ↓vl_ic_ltB, ↓vl_if_ltB, ↓vl_ic_geF, ↓vl_if_geF, ↓vl_ic_geB, ↓vl_if_geB, ↓vl_ic_gtF, ↓vl_if_gtF, ↓vl_ic_gtB, ↓vl_if_gtB, ↓vl_ic_leF, ↓vl_if_leF, ↓vl_ic_leB, ↓vl_if_leB, ↓vl_sw, ↓vl_get, ↓vl_putI, ↓vl_putL, ↓vl_iald, ↓vl_iast, ↓vl_alen, ↓vl_aald, ↓vl_iretI, ↓vl_iretZ, ↓vl_ret, ↓vl_mark, ↓vl_markT, ↓vl_skip, ↓vl_st0, ↓vl_vi0, ↓vl_st1, ↓vl_vi1, ↓vl_st2, ↓vl_vi2, ↓vl_st3, ↓vl_vi3, ↓vl_st4, ↓vl_vi4, ↓vl_st5, ↓vl_vi5, ↓vl_st6, ↓vl_vi6, ↓vl_min, ↓vl_max, ↓vl_cpy, ↓vk_kvs, ↓vk_kvn, ↓vk_gf0, ↓vk_gv0, ↓vk_gv1, ↓vk_gv2, ↓vk_pf, ↓vk_ar, ↓vk_arr, bc_fn, bc_mk, bc_cs, bc_cat, bc_nl, bc_nth, bc_en, bc_sw, true_and, and_true, ↓reduceIte, reduceCtorEq, Nat.reduceEqDiff, Nat.reduceLeDiff, Nat.reduceAdd, Nat.le_refl, Nat.zero_le, Int.cast_ofNat_Int, Int.reduceEq, eq_self, true_implies, false_implies, not_true_eq_false, not_false_eq_true, bc_vr, Int.reduceToNat, Int.toNat_natCast, Int.reduceLE, Int.reduceLT, Int.reduceNeg, true_or, or_true, forall_const, Int.reduceAdd, a2, a3, eg, l30, l31, lk, ek2, l4]
  refine ⟨by omega, ⟨by omega, by omega⟩, ?_⟩
  cases hHs : Hs with
  | nil =>
    simp -implicitDefEqProofs only [List.length_nil, ↓vl_iconst, ↓vl_bipush, ↓vl_sipush, ↓vl_lconst, ↓vl_ldc, ↓vl_ldcw, ↓vl_ldc2, ↓vl_iload0, ↓vl_aload0, ↓vl_istore0, ↓vl_iinc0, ↓vl_iload1, ↓vl_aload1, ↓vl_istore1, ↓vl_iinc1, ↓vl_iload2, ↓vl_aload2, ↓vl_istore2, ↓vl_iinc2, ↓vl_iload3, ↓vl_aload3, ↓vl_istore3, ↓vl_iinc3, ↓vl_iload4, ↓vl_istore4, ↓vl_iinc4, ↓vl_iload5, ↓vl_istore5, ↓vl_iinc5, ↓vl_iload6, ↓vl_istore6, ↓vl_iinc6, ↓vl_iload7, ↓vl_istore7, ↓vl_iinc7, ↓vl_lload5, ↓vl_lstore5, ↓vl_iadd, ↓vl_isub, ↓vl_imul, ↓vl_iand, ↓vl_ior, ↓vl_ixor, ↓vl_ishl, ↓vl_ishr, ↓vl_iushr, ↓vl_idiv, ↓vl_irem, ↓vl_ladd, ↓vl_lsub, ↓vl_lmul, ↓vl_lcmp, ↓vl_i2l, ↓vl_dup, ↓vl_dup2, ↓vl_gotoF, ↓vl_gotoB, ↓vl_nnF, ↓vl_ic_eqF, ↓vl_if_eqF, ↓vl_ic_eqB, ↓vl_if_eqB, ↓vl_ic_neF, ↓vl_if_neF, ↓vl_ic_neB, ↓vl_if_neB, ↓vl_ic_ltF, ↓vl_if_ltF, ↓vl_ic_ltB, ↓vl_if_ltB, ↓vl_ic_geF, ↓vl_if_geF, ↓vl_ic_geB, ↓vl_if_geB, ↓vl_ic_gtF, ↓vl_if_gtF, ↓vl_ic_gtB, ↓vl_if_gtB, ↓vl_ic_leF, ↓vl_if_leF, ↓vl_ic_leB, ↓vl_if_leB, ↓vl_sw, ↓vl_get, ↓vl_putI, ↓vl_putL, ↓vl_iald, ↓vl_iast, ↓vl_alen, ↓vl_aald, ↓vl_iretI, ↓vl_iretZ, ↓vl_ret, ↓vl_mark, ↓vl_markT, ↓vl_skip, ↓vl_st0, ↓vl_vi0, ↓vl_st1, ↓vl_vi1, ↓vl_st2, ↓vl_vi2, ↓vl_st3, ↓vl_vi3, ↓vl_st4, ↓vl_vi4, ↓vl_st5, ↓vl_vi5, ↓vl_st6, ↓vl_vi6, ↓vl_min, ↓vl_max, ↓vl_cpy, ↓vk_kvs, ↓vk_kvn, ↓vk_gf0, ↓vk_gv0, ↓vk_gv1, ↓vk_gv2, ↓vk_pf, ↓vk_ar, ↓vk_arr, bc_fn, bc_mk, bc_cs, bc_cat, bc_nl, bc_nth, bc_en, bc_sw, true_and, and_true, ↓reduceIte, reduceCtorEq, Nat.reduceEqDiff, Nat.reduceLeDiff, Nat.reduceAdd, Nat.le_refl, Nat.zero_le, Int.cast_ofNat_Int, Int.reduceEq, eq_self, true_implies, false_implies, not_true_eq_false, not_false_eq_true, bc_vr, Int.reduceToNat, Int.toNat_natCast, Int.reduceLE, Int.reduceLT, Int.reduceNeg, true_or, or_true, forall_const, Int.reduceAdd]
    exact k0 hHs
  | cons E Gs =>
    have hl : (Hs.length : Int) = (Gs.length : Int) + 1 := by rw [hHs, List.length_cons]; omega
    have hE : Hs[0]? = some E := by rw [hHs]; rfl
    have hCE := a4 0 E hE
    have e0 : (nx + 7 - 0) % 8 = k := by omega
    rw [e0] at hCE
    have hVE := hV E (by rw [hHs]; exact List.mem_cons_self)
    have v0 := hVE.1
    rw [hHs] at hl hlen
    have hgl : (Gs.length : Int) ≤ 7 := by rw [List.length_cons] at hlen; omega
    rw [hl]
    refine ⟨⟨by omega, by omega⟩, fun c => absurd c (by omega), fun _ => ⟨⟨by omega, by omega⟩, fun c => absurd c (by omega), fun _ => ⟨by omega, by omega, by omega, by omega, ?_⟩⟩⟩
    refine c1_copy pd_DL_4 (pd_DL_k k hk) (by omega) (fun h2 hc => ?_)
    have g3 : h2 30 2 = (Gs.length : Int) + 1 := by rw [hc.1 30 (by omega), a3, hHs]; exact hl
    simp -implicitDefEqProofs only [↓vl_iconst, ↓vl_bipush, ↓vl_sipush, ↓vl_lconst, ↓vl_ldc, ↓vl_ldcw, ↓vl_ldc2, ↓vl_iload0, ↓vl_aload0, ↓vl_istore0, ↓vl_iinc0, ↓vl_iload1, ↓vl_aload1, ↓vl_istore1, ↓vl_iinc1, ↓vl_iload2, ↓vl_aload2, ↓vl_istore2, ↓vl_iinc2, ↓vl_iload3, ↓vl_aload3, ↓vl_istore3, ↓vl_iinc3, ↓vl_iload4, ↓vl_istore4, ↓vl_iinc4, ↓vl_iload5, ↓vl_istore5, ↓vl_iinc5, ↓vl_iload6, ↓vl_istore6, ↓vl_iinc6, ↓vl_iload7, ↓vl_istore7, ↓vl_iinc7, ↓vl_lload5, ↓vl_lstore5, ↓vl_iadd, ↓vl_isub, ↓vl_imul, ↓vl_iand, ↓vl_ior, ↓vl_ixor, ↓vl_ishl, ↓vl_ishr, ↓vl_iushr, ↓vl_idiv, ↓vl_irem, ↓vl_ladd, ↓vl_lsub, ↓vl_lmul, ↓vl_lcmp, ↓vl_i2l, ↓vl_dup, ↓vl_dup2, ↓vl_gotoF, ↓vl_gotoB, ↓vl_nnF, ↓vl_ic_eqF, ↓vl_if_eqF, ↓vl_ic_eqB, ↓vl_if_eqB, ↓vl_ic_neF, ↓vl_if_neF, ↓vl_ic_neB, ↓vl_if_neB, ↓vl_ic_ltF, ↓vl_if_ltF, ↓vl_ic_ltB, ↓vl_if_ltB, ↓vl_ic_geF, ↓vl_if_geF, ↓vl_ic_geB, ↓vl_if_geB, ↓vl_ic_gtF, ↓vl_if_gtF, ↓vl_ic_gtB, ↓vl_if_gtB, ↓vl_ic_leF, ↓vl_if_leF, ↓vl_ic_leB, ↓vl_if_leB, ↓vl_sw, ↓vl_get, ↓vl_putI, ↓vl_putL, ↓vl_iald, ↓vl_iast, ↓vl_alen, ↓vl_aald, ↓vl_iretI, ↓vl_iretZ, ↓vl_ret, ↓vl_mark, ↓vl_markT, ↓vl_skip, ↓vl_st0, ↓vl_vi0, ↓vl_st1, ↓vl_vi1, ↓vl_st2, ↓vl_vi2, ↓vl_st3, ↓vl_vi3, ↓vl_st4, ↓vl_vi4, ↓vl_st5, ↓vl_vi5, ↓vl_st6, ↓vl_vi6, ↓vl_min, ↓vl_max, ↓vl_cpy, ↓vk_kvs, ↓vk_kvn, ↓vk_gf0, ↓vk_gv0, ↓vk_gv1, ↓vk_gv2, ↓vk_pf, ↓vk_ar, ↓vk_arr, bc_fn, bc_mk, bc_cs, bc_cat, bc_nl, bc_nth, bc_en, bc_sw, true_and, and_true, ↓reduceIte, reduceCtorEq, Nat.reduceEqDiff, Nat.reduceLeDiff, Nat.reduceAdd, Nat.le_refl, Nat.zero_le, Int.cast_ofNat_Int, Int.reduceEq, eq_self, true_implies, false_implies, not_true_eq_false, not_false_eq_true, bc_vr, Int.reduceToNat, Int.toNat_natCast, Int.reduceLE, Int.reduceLT, Int.reduceNeg, true_or, or_true, forall_const, Int.reduceAdd, l30, g3]
    have e1 : (Gs.length : Int) + 1 - 1 = (Gs.length : Int) := by omega
    refine k1 E Gs hHs _ ?_ ?_ (fun c x => ?_)
    · exact pd_C_fr (pd_C_copied hc hCE (by omega)) (fun q x y => by rw [bc_up_row (by omega), bc_up_row (by omega)])
    · refine ⟨k, hk, by rw [bc_up_nj (by omega), bc_up_at], by rw [bc_up_at, bc_up_nj (by omega), g3]; exact e1, fun j G hG => ?_⟩
      have hG2 : Hs[j + 1]? = some G := by rw [hHs, List.getElem?_cons_succ]; exact hG
      have := a4 (j + 1) G hG2
      have hj : j + 1 < Hs.length := by
        refine Classical.byContradiction (fun z => ?_)
        rw [List.getElem?_eq_none (by omega)] at hG2
        simp at hG2
      rw [hHs] at hj
      have e2 : (nx + 7 - (j + 1)) % 8 = (k + 7 - j) % 8 := by omega
      rw [e2] at this
      have lt : (k + 7 - j) % 8 < 8 := Nat.mod_lt _ (by omega)
      exact pd_C_fr this (fun q x y => by rw [bc_up_row (by omega), bc_up_row (by omega)]; exact hc.1 q (by omega))
    · rw [bc_up_row (by omega), bc_up_row (by omega)]; exact hc.1 c (by omega)
end Keep
