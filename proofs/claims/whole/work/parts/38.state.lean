/-! THE STATE: tape T of n bytes, fault F, desk D, history Hs (the newest first); what the class and the reference hold of it -/
theorem bc_up_row {h : bc_AH} {k j c : Nat} {v : Int} (hc : c ≠ k) : bc_up h k j v c = h c := by
  funext q
  simp [bc_up, hc]
def pd_TC (T : Nat → Int) (n : Int) (h : bc_AH) : Prop := h 1 1 = n ∧ ∀ i : Nat, (i : Int) < n → h 2 i = T i
def pd_TM (T : Nat → Int) (n : Int) (h : bc_AH) : Prop := h 104 2 = n ∧ ∀ i : Nat, (i : Int) < n → h 105 i = T i
def pd_HC (Hs : List (Nat → Int)) (h : bc_AH) : Prop := ∃ nx : Nat, nx < 8 ∧ h 30 1 = (nx : Int) ∧ h 30 2 = (Hs.length : Int) ∧ ∀ (j : Nat) (E : Nat → Int), Hs[j]? = some E → pd_C (32 + 9 * ((nx + 7 - j) % 8)) E h
def pd_HM (Hs : List (Nat → Int)) (h : bc_AH) : Prop := h 104 14 = (Hs.length : Int) ∧ ∀ (j : Nat) (E : Nat → Int), Hs[j]? = some E → ∀ i : Nat, i < 223 → h 108 (223 * (Hs.length - 1 - j) + i) = E i
def pd_RC (T : Nat → Int) (n F : Int) (D : Nat → Int) (Hs : List (Nat → Int)) (h : bc_AH) : Prop := pd_TC T n h ∧ h 3 5 = F ∧ pd_C 4 D h ∧ h 22 5 = -1 ∧ pd_HC Hs h
def pd_RM (T : Nat → Int) (n F : Int) (D : Nat → Int) (Hs : List (Nat → Int)) (h : bc_AH) : Prop := pd_TM T n h ∧ h 104 8 = F ∧ pd_M 106 D h ∧ pd_HM Hs h
def pd_SV (T : Nat → Int) (n F : Int) (D : Nat → Int) (Hs : List (Nat → Int)) : Prop := (0 ≤ n ∧ n ≤ 440) ∧ (∀ i : Nat, (i : Int) < n → 0 ≤ T i ∧ T i ≤ 255) ∧ pd_W D ∧ Hs.length ≤ 8 ∧ ∀ E ∈ Hs, pd_W E
/-- the class's cells are those below 104, the reference's those from 104 to 116 -/
theorem pd_RC_fr {T : Nat → Int} {n F : Int} {D : Nat → Int} {Hs : List (Nat → Int)} {h h' : bc_AH} (hR : pd_RC T n F D Hs h) (hf : ∀ c : Nat, c < 104 → c < 22 ∨ 28 < c → h' c = h c) (h5 : h' 22 5 = -1) : pd_RC T n F D Hs h' := by
  obtain ⟨⟨t1, t2⟩, f, c, -, nx, a1, a2, a3, a4⟩ := hR
  refine ⟨⟨by rw [hf 1 (by omega) (by omega)]; exact t1, fun i hi => by rw [hf 2 (by omega) (by omega)]; exact t2 i hi⟩, by rw [hf 3 (by omega) (by omega)]; exact f, pd_C_fr c (fun j a b => hf j (by omega) (by omega)), h5, nx, a1, by rw [hf 30 (by omega) (by omega)]; exact a2, by rw [hf 30 (by omega) (by omega)]; exact a3, fun j E hE => ?_⟩
  have : (nx + 7 - j) % 8 < 8 := Nat.mod_lt _ (by omega)
  exact pd_C_fr (a4 j E hE) (fun q x y => hf q (by omega) (by omega))
theorem pd_RM_fr {T : Nat → Int} {n F : Int} {D : Nat → Int} {Hs : List (Nat → Int)} {h h' : bc_AH} (hR : pd_RM T n F D Hs h) (h1 : ∀ j : Nat, j ≠ 0 → j ≠ 16 → j ≠ 23 → j ≠ 24 → j ≠ 25 → j ≠ 26 → h' 104 j = h 104 j) (h2 : ∀ c : Nat, c ≠ 104 → c < 109 → h' c = h c) : pd_RM T n F D Hs h' := by
  obtain ⟨⟨t1, t2⟩, f, c, a1, a2⟩ := hR
  refine ⟨⟨by rw [h1 2 (by omega) (by omega) (by omega) (by omega) (by omega) (by omega)]; exact t1, fun i hi => by rw [h2 105 (by omega) (by omega)]; exact t2 i hi⟩, by rw [h1 8 (by omega) (by omega) (by omega) (by omega) (by omega) (by omega)]; exact f, pd_M_fr c (h2 106 (by omega) (by omega)), by rw [h1 14 (by omega) (by omega) (by omega) (by omega) (by omega) (by omega)]; exact a1, fun j E hE i hi => by rw [h2 108 (by omega) (by omega)]; exact a2 j E hE i hi⟩
section State
variable {d : Nat} {h : bc_AH} {post : Option bc_AV → bc_AH → Prop} {T D : Nat → Int} {n F : Int} {Hs : List (Nat → Int)}
-- fault()
theorem p6_fault (hR : pd_RC T n F D Hs h) (kk : post (some (.inl F)) h) : bc_OK (d + 1) 57 [.inr (.inr 0)] h post := by
  have e := hR.2.1
  refine bc_run (n := 1) ck_X6_fault rfl rfl rfl rfl (Nat.le_of_ble_eq_true rfl) ?_
  simp only [k_X6_fault, ↓vl_iconst, ↓vl_bipush, ↓vl_sipush, ↓vl_lconst, ↓vl_ldc, ↓vl_ldcw, ↓vl_ldc2, ↓vl_iload0, ↓vl_aload0, ↓vl_istore0, ↓vl_iinc0, ↓vl_iload1, ↓vl_aload1, ↓vl_istore1, ↓vl_iinc1, ↓vl_iload2, ↓vl_aload2, ↓vl_istore2, ↓vl_iinc2, ↓vl_iload3, ↓vl_aload3, ↓vl_istore3, ↓vl_iinc3, ↓vl_iload4, ↓vl_istore4, ↓vl_iinc4, ↓vl_iload5, ↓vl_istore5, ↓vl_iinc5, ↓vl_iload6, ↓vl_istore6, ↓vl_iinc6, ↓vl_iload7, ↓vl_istore7, ↓vl_iinc7, ↓vl_lload5, ↓vl_lstore5, ↓vl_iadd, ↓vl_isub, ↓vl_imul, ↓vl_iand, ↓vl_ior, ↓vl_ixor, ↓vl_ishl, ↓vl_ishr, ↓vl_iushr, ↓vl_idiv, ↓vl_irem, ↓vl_ladd, ↓vl_lsub, ↓vl_lmul, ↓vl_lcmp, ↓vl_i2l, ↓vl_dup, ↓vl_dup2, ↓vl_gotoF, ↓vl_gotoB, ↓vl_nnF, ↓vl_ic_eqF, ↓vl_if_eqF, ↓vl_ic_eqB, ↓vl_if_eqB, ↓vl_ic_neF, ↓vl_if_neF, ↓vl_ic_neB, ↓vl_if_neB, ↓vl_ic_ltF, ↓vl_if_ltF, ↓vl_ic_ltB, ↓vl_if_ltB, ↓vl_ic_geF, ↓vl_if_geF, ↓vl_ic_geB, ↓vl_if_geB, ↓vl_ic_gtF, ↓vl_if_gtF, ↓vl_ic_gtB, ↓vl_if_gtB, ↓vl_ic_leF, ↓vl_if_leF, ↓vl_ic_leB, ↓vl_if_leB, ↓vl_sw, ↓vl_get, ↓vl_putI, ↓vl_putL, ↓vl_iald, ↓vl_iast, ↓vl_alen, ↓vl_aald, ↓vl_iretI, ↓vl_iretZ, ↓vl_ret, ↓vl_mark, ↓vl_markT, ↓vl_skip, ↓vl_st0, ↓vl_vi0, ↓vl_st1, ↓vl_vi1, ↓vl_st2, ↓vl_vi2, ↓vl_st3, ↓vl_vi3, ↓vl_st4, ↓vl_vi4, ↓vl_st5, ↓vl_vi5, ↓vl_st6, ↓vl_vi6, ↓vl_min, ↓vl_max, ↓vl_cpy, ↓vk_kvs, ↓vk_kvn, ↓vk_gf0, ↓vk_gv0, ↓vk_gv1, ↓vk_gv2, ↓vk_pf, ↓vk_ar, ↓vk_arr, bc_lay, bc_fn, bc_mk, bc_cs, bc_cat, bc_nl, bc_nth, bc_en, bc_sw, true_and, and_true, ↓reduceIte, reduceCtorEq, Nat.reduceEqDiff, Nat.reduceLeDiff, Nat.reduceAdd, Nat.le_refl, Nat.zero_le, Int.cast_ofNat_Int, Int.reduceEq, eq_self, true_implies, false_implies, not_true_eq_false, not_false_eq_true, bc_vr, Int.reduceToNat, Int.toNat_natCast, Int.reduceLE, Int.reduceLT, Int.reduceNeg, true_or, or_true, forall_const, Int.reduceAdd, e]
  exact kk
theorem p7_fault (hR : pd_RM T n F D Hs h) (kk : ∀ h', pd_RM T n F D Hs h' → (∀ c : Nat, c ≠ 104 → h' c = h c) → post (some (.inl F)) h') : bc_OK (d + 1) 100 [.inr (.inr 104)] h post := by
  have hR2 : pd_RM T n F D Hs (bc_up h 104 0 0) := pd_RM_fr hR (fun j a _ _ _ _ _ => by simp [bc_up, a]) (fun c a _ => by funext q; simp [bc_up, a])
  have e := hR2.2.1
  refine bc_run (n := 1) ck_X7_fault rfl rfl rfl rfl (Nat.le_of_ble_eq_true rfl) ?_
  simp only [k_X7_fault, ↓vl_iconst, ↓vl_bipush, ↓vl_sipush, ↓vl_lconst, ↓vl_ldc, ↓vl_ldcw, ↓vl_ldc2, ↓vl_iload0, ↓vl_aload0, ↓vl_istore0, ↓vl_iinc0, ↓vl_iload1, ↓vl_aload1, ↓vl_istore1, ↓vl_iinc1, ↓vl_iload2, ↓vl_aload2, ↓vl_istore2, ↓vl_iinc2, ↓vl_iload3, ↓vl_aload3, ↓vl_istore3, ↓vl_iinc3, ↓vl_iload4, ↓vl_istore4, ↓vl_iinc4, ↓vl_iload5, ↓vl_istore5, ↓vl_iinc5, ↓vl_iload6, ↓vl_istore6, ↓vl_iinc6, ↓vl_iload7, ↓vl_istore7, ↓vl_iinc7, ↓vl_lload5, ↓vl_lstore5, ↓vl_iadd, ↓vl_isub, ↓vl_imul, ↓vl_iand, ↓vl_ior, ↓vl_ixor, ↓vl_ishl, ↓vl_ishr, ↓vl_iushr, ↓vl_idiv, ↓vl_irem, ↓vl_ladd, ↓vl_lsub, ↓vl_lmul, ↓vl_lcmp, ↓vl_i2l, ↓vl_dup, ↓vl_dup2, ↓vl_gotoF, ↓vl_gotoB, ↓vl_nnF, ↓vl_ic_eqF, ↓vl_if_eqF, ↓vl_ic_eqB, ↓vl_if_eqB, ↓vl_ic_neF, ↓vl_if_neF, ↓vl_ic_neB, ↓vl_if_neB, ↓vl_ic_ltF, ↓vl_if_ltF, ↓vl_ic_ltB, ↓vl_if_ltB, ↓vl_ic_geF, ↓vl_if_geF, ↓vl_ic_geB, ↓vl_if_geB, ↓vl_ic_gtF, ↓vl_if_gtF, ↓vl_ic_gtB, ↓vl_if_gtB, ↓vl_ic_leF, ↓vl_if_leF, ↓vl_ic_leB, ↓vl_if_leB, ↓vl_sw, ↓vl_get, ↓vl_putI, ↓vl_putL, ↓vl_iald, ↓vl_iast, ↓vl_alen, ↓vl_aald, ↓vl_iretI, ↓vl_iretZ, ↓vl_ret, ↓vl_mark, ↓vl_markT, ↓vl_skip, ↓vl_st0, ↓vl_vi0, ↓vl_st1, ↓vl_vi1, ↓vl_st2, ↓vl_vi2, ↓vl_st3, ↓vl_vi3, ↓vl_st4, ↓vl_vi4, ↓vl_st5, ↓vl_vi5, ↓vl_st6, ↓vl_vi6, ↓vl_min, ↓vl_max, ↓vl_cpy, ↓vk_kvs, ↓vk_kvn, ↓vk_gf0, ↓vk_gv0, ↓vk_gv1, ↓vk_gv2, ↓vk_pf, ↓vk_ar, ↓vk_arr, bc_lay, bc_fn, bc_mk, bc_cs, bc_cat, bc_nl, bc_nth, bc_en, bc_sw, true_and, and_true, ↓reduceIte, reduceCtorEq, Nat.reduceEqDiff, Nat.reduceLeDiff, Nat.reduceAdd, Nat.le_refl, Nat.zero_le, Int.cast_ofNat_Int, Int.reduceEq, eq_self, true_implies, false_implies, not_true_eq_false, not_false_eq_true, bc_vr, Int.reduceToNat, Int.toNat_natCast, Int.reduceLE, Int.reduceLT, Int.reduceNeg, true_or, or_true, forall_const, Int.reduceAdd, e]
  exact kk _ hR2 (fun c a => by funext q; simp [bc_up, a])
-- end(n)
theorem p6_end (hR : pd_RC T n F D Hs h) (hS : pd_SV T n F D Hs) {x : Int} (hx : bc_vr x) (kk : ∀ h', pd_RC T (if 0 ≤ x ∧ x ≤ n then x else n) F D Hs h' → (∀ c : Nat, c ≠ 1 → h' c = h c) → post (some (.inl (if 0 ≤ x ∧ x ≤ n then 1 else 0))) h') : bc_OK (d + 1) 55 [.inr (.inr 0), .inl x] h post := by
  have hn := hS.1
  have e := hR.1.1
  have hx1 := hx.1
  have hx2 := hx.2
  have k0 : ¬ (0 ≤ x ∧ x ≤ n) → post (some (.inl 0)) h := fun q => by
    have := kk h (by rw [if_neg q]; exact hR) (fun _ _ => rfl)
    rw [if_neg q] at this
    exact this
  refine bc_run (n := 2) ck_X6_end rfl rfl rfl rfl (Nat.le_of_ble_eq_true rfl) ?_
  simp only [k_X6_end, ↓vl_iconst, ↓vl_bipush, ↓vl_sipush, ↓vl_lconst, ↓vl_ldc, ↓vl_ldcw, ↓vl_ldc2, ↓vl_iload0, ↓vl_aload0, ↓vl_istore0, ↓vl_iinc0, ↓vl_iload1, ↓vl_aload1, ↓vl_istore1, ↓vl_iinc1, ↓vl_iload2, ↓vl_aload2, ↓vl_istore2, ↓vl_iinc2, ↓vl_iload3, ↓vl_aload3, ↓vl_istore3, ↓vl_iinc3, ↓vl_iload4, ↓vl_istore4, ↓vl_iinc4, ↓vl_iload5, ↓vl_istore5, ↓vl_iinc5, ↓vl_iload6, ↓vl_istore6, ↓vl_iinc6, ↓vl_iload7, ↓vl_istore7, ↓vl_iinc7, ↓vl_lload5, ↓vl_lstore5, ↓vl_iadd, ↓vl_isub, ↓vl_imul, ↓vl_iand, ↓vl_ior, ↓vl_ixor, ↓vl_ishl, ↓vl_ishr, ↓vl_iushr, ↓vl_idiv, ↓vl_irem, ↓vl_ladd, ↓vl_lsub, ↓vl_lmul, ↓vl_lcmp, ↓vl_i2l, ↓vl_dup, ↓vl_dup2, ↓vl_gotoF, ↓vl_gotoB, ↓vl_nnF, ↓vl_ic_eqF, ↓vl_if_eqF, ↓vl_ic_eqB, ↓vl_if_eqB, ↓vl_ic_neF, ↓vl_if_neF, ↓vl_ic_neB, ↓vl_if_neB, ↓vl_ic_ltF, ↓vl_if_ltF, ↓vl_ic_ltB, ↓vl_if_ltB, ↓vl_ic_geF, ↓vl_if_geF, ↓vl_ic_geB, ↓vl_if_geB, ↓vl_ic_gtF, ↓vl_if_gtF, ↓vl_ic_gtB, ↓vl_if_gtB, ↓vl_ic_leF, ↓vl_if_leF, ↓vl_ic_leB, ↓vl_if_leB, ↓vl_sw, ↓vl_get, ↓vl_putI, ↓vl_putL, ↓vl_iald, ↓vl_iast, ↓vl_alen, ↓vl_aald, ↓vl_iretI, ↓vl_iretZ, ↓vl_ret, ↓vl_mark, ↓vl_markT, ↓vl_skip, ↓vl_st0, ↓vl_vi0, ↓vl_st1, ↓vl_vi1, ↓vl_st2, ↓vl_vi2, ↓vl_st3, ↓vl_vi3, ↓vl_st4, ↓vl_vi4, ↓vl_st5, ↓vl_vi5, ↓vl_st6, ↓vl_vi6, ↓vl_min, ↓vl_max, ↓vl_cpy, ↓vk_kvs, ↓vk_kvn, ↓vk_gf0, ↓vk_gv0, ↓vk_gv1, ↓vk_gv2, ↓vk_pf, ↓vk_ar, ↓vk_arr, bc_lay, bc_fn, bc_mk, bc_cs, bc_cat, bc_nl, bc_nth, bc_en, bc_sw, true_and, and_true, ↓reduceIte, reduceCtorEq, Nat.reduceEqDiff, Nat.reduceLeDiff, Nat.reduceAdd, Nat.le_refl, Nat.zero_le, Int.cast_ofNat_Int, Int.reduceEq, eq_self, true_implies, false_implies, not_true_eq_false, not_false_eq_true, bc_vr, Int.reduceToNat, Int.toNat_natCast, Int.reduceLE, Int.reduceLT, Int.reduceNeg, true_or, or_true, forall_const, Int.reduceAdd, e]
  refine ⟨⟨by omega, by omega⟩, fun c => k0 (by omega), fun c => ⟨⟨by omega, by omega⟩, ⟨by omega, by omega⟩, fun c2 => ?_, fun c2 => k0 (by omega)⟩⟩
  have hq : 0 ≤ x ∧ x ≤ n := by omega
  have := kk (bc_up h 1 1 x) (by
    rw [if_pos hq]
    obtain ⟨⟨t1, t2⟩, f, c, s5, nx, a1, a2, a3, a4⟩ := hR
    exact ⟨⟨by simp [bc_up], fun i hi => by simp [bc_up]; exact t2 i (by omega)⟩, by simp [bc_up]; exact f, pd_C_fr c (fun j a b => bc_up_row (by omega)), by simp [bc_up]; exact s5, nx, a1, by simp [bc_up]; exact a2, by simp [bc_up]; exact a3, fun j E hE => pd_C_fr (a4 j E hE) (fun q x y => bc_up_row (by omega))⟩) (fun c a => bc_up_row a)
  rw [if_pos hq] at this
  exact this
theorem p7_end (hR : pd_RM T n F D Hs h) (hS : pd_SV T n F D Hs) {x : Int} (hx : bc_vr x) (kk : ∀ h', pd_RM T (if 0 ≤ x ∧ x ≤ n then x else n) F D Hs h' → (∀ c : Nat, c ≠ 104 → h' c = h c) → post (some (.inl (if 0 ≤ x ∧ x ≤ n then 1 else 0))) h') : bc_OK (d + 1) 85 [.inr (.inr 104), .inl x] h post := by
  have hn := hS.1
  have hx1 := hx.1
  have hx2 := hx.2
  have hR2 : pd_RM T n F D Hs (bc_up h 104 0 0) := pd_RM_fr hR (fun j a _ _ _ _ _ => by simp [bc_up, a]) (fun c a _ => by funext q; simp [bc_up, a])
  have e := hR2.1.1
  have k0 : ¬ (0 ≤ x ∧ x ≤ n) → post (some (.inl 0)) (bc_up h 104 0 0) := fun q => by
    have := kk (bc_up h 104 0 0) (by rw [if_neg q]; exact hR2) (fun c a => by funext q; simp [bc_up, a])
    rw [if_neg q] at this
    exact this
  refine bc_run (n := 2) ck_X7_end rfl rfl rfl rfl (Nat.le_of_ble_eq_true rfl) ?_
  simp only [k_X7_end, ↓vl_iconst, ↓vl_bipush, ↓vl_sipush, ↓vl_lconst, ↓vl_ldc, ↓vl_ldcw, ↓vl_ldc2, ↓vl_iload0, ↓vl_aload0, ↓vl_istore0, ↓vl_iinc0, ↓vl_iload1, ↓vl_aload1, ↓vl_istore1, ↓vl_iinc1, ↓vl_iload2, ↓vl_aload2, ↓vl_istore2, ↓vl_iinc2, ↓vl_iload3, ↓vl_aload3, ↓vl_istore3, ↓vl_iinc3, ↓vl_iload4, ↓vl_istore4, ↓vl_iinc4, ↓vl_iload5, ↓vl_istore5, ↓vl_iinc5, ↓vl_iload6, ↓vl_istore6, ↓vl_iinc6, ↓vl_iload7, ↓vl_istore7, ↓vl_iinc7, ↓vl_lload5, ↓vl_lstore5, ↓vl_iadd, ↓vl_isub, ↓vl_imul, ↓vl_iand, ↓vl_ior, ↓vl_ixor, ↓vl_ishl, ↓vl_ishr, ↓vl_iushr, ↓vl_idiv, ↓vl_irem, ↓vl_ladd, ↓vl_lsub, ↓vl_lmul, ↓vl_lcmp, ↓vl_i2l, ↓vl_dup, ↓vl_dup2, ↓vl_gotoF, ↓vl_gotoB, ↓vl_nnF, ↓vl_ic_eqF, ↓vl_if_eqF, ↓vl_ic_eqB, ↓vl_if_eqB, ↓vl_ic_neF, ↓vl_if_neF, ↓vl_ic_neB, ↓vl_if_neB, ↓vl_ic_ltF, ↓vl_if_ltF, ↓vl_ic_ltB, ↓vl_if_ltB, ↓vl_ic_geF, ↓vl_if_geF, ↓vl_ic_geB, ↓vl_if_geB, ↓vl_ic_gtF, ↓vl_if_gtF, ↓vl_ic_gtB, ↓vl_if_gtB, ↓vl_ic_leF, ↓vl_if_leF, ↓vl_ic_leB, ↓vl_if_leB, ↓vl_sw, ↓vl_get, ↓vl_putI, ↓vl_putL, ↓vl_iald, ↓vl_iast, ↓vl_alen, ↓vl_aald, ↓vl_iretI, ↓vl_iretZ, ↓vl_ret, ↓vl_mark, ↓vl_markT, ↓vl_skip, ↓vl_st0, ↓vl_vi0, ↓vl_st1, ↓vl_vi1, ↓vl_st2, ↓vl_vi2, ↓vl_st3, ↓vl_vi3, ↓vl_st4, ↓vl_vi4, ↓vl_st5, ↓vl_vi5, ↓vl_st6, ↓vl_vi6, ↓vl_min, ↓vl_max, ↓vl_cpy, ↓vk_kvs, ↓vk_kvn, ↓vk_gf0, ↓vk_gv0, ↓vk_gv1, ↓vk_gv2, ↓vk_pf, ↓vk_ar, ↓vk_arr, bc_lay, bc_fn, bc_mk, bc_cs, bc_cat, bc_nl, bc_nth, bc_en, bc_sw, true_and, and_true, ↓reduceIte, reduceCtorEq, Nat.reduceEqDiff, Nat.reduceLeDiff, Nat.reduceAdd, Nat.le_refl, Nat.zero_le, Int.cast_ofNat_Int, Int.reduceEq, eq_self, true_implies, false_implies, not_true_eq_false, not_false_eq_true, bc_vr, Int.reduceToNat, Int.toNat_natCast, Int.reduceLE, Int.reduceLT, Int.reduceNeg, true_or, or_true, forall_const, Int.reduceAdd, e]
  refine ⟨⟨by omega, by omega⟩, fun c => k0 (by omega), fun c => ⟨⟨by omega, by omega⟩, ⟨by omega, by omega⟩, fun c2 => ?_, fun c2 => k0 (by omega)⟩⟩
  have hq : 0 ≤ x ∧ x ≤ n := by omega
  have := kk (bc_up (bc_up h 104 0 0) 104 2 x) (by
    rw [if_pos hq]
    obtain ⟨⟨t1, t2⟩, f, c, a1, a2⟩ := hR2
    exact ⟨⟨by simp [bc_up], fun i hi => by simp [bc_up]; have := t2 i (by omega); simpa [bc_up] using this⟩, by simpa [bc_up] using f, fun i hi => by simpa [bc_up] using c i hi, by simpa [bc_up] using a1, fun j E hE i hi => by simpa [bc_up] using a2 j E hE i hi⟩) (fun c a => by funext q; simp [bc_up, a])
  rw [if_pos hq] at this
  exact this
end State
