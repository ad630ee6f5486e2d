/-! what is chosen, as a set of orders; the fills of both sides as one pure row -/
def pd_cv (D : Nat → Int) : Int := (pd_pk D (pd_l0 D) (fun _ => false) (D 1) (-1)).1
def pd_cs (D : Nat → Int) : Int := (pd_pk D (pd_l0 D) (fun _ => false) (D 1) (-1)).2
def pd_cl (D : Nat → Int) : List Nat := pd_bl (bc_bit (pd_cs D)) (D 0).toNat
def pd_fr2 (D : Nat → Int) : Nat → Int := pd_fs D (pd_cv D) (pd_cl D) (bc_bit (pd_cs D)) (pd_rk D (pd_ob D) (D 0).toNat) (pd_l0 D)
def pd_fill (D : Nat → Int) (x : Nat) : Int := if bc_bit (pd_cs D) x = true then pd_fr2 D x else 0
theorem pd_cs_spec {D : Nat → Int} (hW : pd_W D) : (∀ x, x < 32 → bc_bit (pd_cs D) x = true → x ∈ pd_wl D (D 1) (-1)) ∧ pd_cv D = pd_vc D (pd_sz D) (pd_cl D) ∧ pd_J D (pd_cv D) (pd_cl D) (pd_l0 D) (pd_sz D) ∧ (pd_cv D = 0 → pd_cs D = 0) ∧ bc_vr (pd_cs D) := by
  have hV := hW.1
  have v0 := hV.1
  have s1 := pd_scan_spec (fun S => pd_VM D (pd_l0 D) (pd_sz D) S S) pd_ml (pd_subs (fun _ => false) (pd_wl D (D 1) (-1))) (0, 0)
  have ev : pd_cv D = (pd_scan (fun S => pd_VM D (pd_l0 D) (pd_sz D) S S) pd_ml (pd_subs (fun _ => false) (pd_wl D (D 1) (-1))) (0, 0)).1 := rfl
  have es : pd_cs D = (pd_scan (fun S => pd_VM D (pd_l0 D) (pd_sz D) S S) pd_ml (pd_subs (fun _ => false) (pd_wl D (D 1) (-1))) (0, 0)).2 := rfl
  rcases s1.2.2 with e | ⟨S, hS, e, hpos⟩
  · rw [e] at ev es
    have ev' : pd_cv D = 0 := ev
    have es' : pd_cs D = 0 := es
    have el : pd_cl D = [] := by
      unfold pd_cl
      rw [es']
      refine List.eq_nil_iff_forall_not_mem.mpr (fun x hx => ?_)
      have := ((pd_bl_mem _).mp hx).2
      rw [bc_bit_0] at this
      exact absurd this (by decide)
    rw [ev', es', el]
    refine ⟨fun x _ q => by rw [bc_bit_0] at q; exact absurd q (by decide), rfl, ⟨fun x hx => by simp at hx, ⟨Int.le_refl _, Int.le_refl _⟩, fun f _ => ⟨Int.le_refl _, Int.le_refl _⟩, fun x hx => by simp at hx⟩, fun _ => rfl, by unfold bc_vr; omega⟩
  · rw [e] at ev es
    have ev' : pd_cv D = pd_VM D (pd_l0 D) (pd_sz D) S S := ev
    have es' : pd_cs D = pd_ml S := es
    have hp : 0 < pd_VM D (pd_l0 D) (pd_sz D) S S := hpos
    have hsb := pd_subs_sub _ _ hS
    have hnd : (pd_wl D (D 1) (-1)).Nodup := (List.filter_sublist).nodup (pd_rk_nodup _)
    have hm32 : ∀ x ∈ S, x < 32 := fun x hx => by have := (pd_wl_ok hV (hsb.subset hx)).1; omega
    have hbl : ∀ x, x ∈ pd_cl D ↔ x ∈ S := fun x => by
      unfold pd_cl
      rw [pd_bl_mem, es']
      constructor
      · intro q
        have q2 := q.2
        rw [pd_ml_bit hm32 (by omega)] at q2
        simpa using q2
      · intro q
        have := (pd_wl_ok hV (hsb.subset q)).1
        exact ⟨by omega, by rw [pd_ml_bit hm32 (by omega)]; simpa using q⟩
    have hnc : (pd_cl D).Nodup := pd_bl_nodup _
    rw [← pd_VM_same (D := D) hnc (hsb.nodup hnd) hbl] at ev' hp
    have evc : pd_cv D = pd_vc D (pd_sz D) (pd_cl D) := by rw [ev']; exact pd_VM_vc (Int.le_of_lt hp)
    have hO : ∀ x ∈ pd_cl D, pd_O D x ∧ 1 ≤ pd_l0 D x ∧ pd_l0 D x ≤ pd_sz D x := fun x hx => by
      have := pd_wl_ok hV (hsb.subset ((hbl x).mp hx))
      exact ⟨hV.2.2 x this.1, this.2.2.2.1, this.2.2.2.2.1⟩
    have hSO : pd_SO D (pd_cl D) := ⟨hnc, fun x hx => (hO x hx).1⟩
    refine ⟨fun x hx q => ?_, evc, ⟨fun x hx => ?_, ?_, fun f hf => ?_, fun x hx q => absurd q (by omega)⟩, fun q => by omega, by rw [es']; exact pd_mlk_vr S 0 (by unfold bc_vr; omega)⟩
    · rw [es', pd_ml_bit hm32 hx] at q
      exact hsb.subset (by simpa using q)
    · have := (hO x hx).2; omega
    · have hp2 := hp
      unfold pd_VM pd_vol at hp2
      split at hp2
      · rename_i hc
        obtain ⟨-, c2, c3⟩ := pd_can_iff.mp hc
        rw [pd_SO_t6 hSO] at c2 c3
        rw [evc]
        exact ⟨c2, c3⟩
      · omega
    · have hp2 := hp
      unfold pd_VM pd_vol at hp2
      split at hp2
      · rename_i hc
        have c1 := (pd_can_iff.mp hc).1 f hf
        rw [pd_SO_t6 hSO, pd_SO_t6 hSO] at c1
        exact c1
      · omega
theorem pd_cl_mem {D : Nat → Int} (hW : pd_W D) {x : Nat} : x ∈ pd_cl D ↔ x < 32 ∧ bc_bit (pd_cs D) x = true := by
  have v0 := hW.1.1
  unfold pd_cl
  rw [pd_bl_mem]
  constructor
  · intro q; exact ⟨by omega, q.2⟩
  · intro q
    have := (pd_wl_ok hW.1 ((pd_cs_spec hW).1 x q.1 q.2)).1
    exact ⟨by omega, q.2⟩
theorem pd_cl_SO {D : Nat → Int} (hW : pd_W D) : pd_SO D (pd_cl D) := ⟨pd_bl_nodup _, fun x hx => by
  obtain ⟨a, b⟩ := (pd_cl_mem hW).mp hx
  exact hW.1.2.2 x (pd_wl_ok hW.1 ((pd_cs_spec hW).1 x a b)).1⟩
theorem pd_fs_wl {D : Nat → Int} (hW : pd_W D) {lo : Nat → Int} {V : Int} {S : List Nat} : pd_fs D V S (bc_bit (pd_cs D)) (pd_wl D (D 1) (-1)) lo = pd_fs D V S (bc_bit (pd_cs D)) (pd_rk D (pd_ob D) (D 0).toNat) lo := by
  have v0 := hW.1.1
  rw [← pd_fs_filter (pd_wl D (D 1) (-1)), ← pd_fs_filter (pd_rk D (pd_ob D) (D 0).toNat)]
  congr 1
  unfold pd_wl
  rw [List.filter_filter]
  refine List.filter_congr (fun x hx => ?_)
  cases q : bc_bit (pd_cs D) x with
  | false => rfl
  | true =>
    have hx0 := ((pd_rk_mem _).mp hx).1
    have := (List.mem_filter.mp ((pd_cs_spec hW).1 x (by omega) q)).2
    rw [this]; rfl
section Share
variable {d : Nat} {h : bc_AH} {post : Option bc_AV → bc_AH → Prop} {T D : Nat → Int} {n F : Int} {Hs : List (Nat → Int)}
theorem c4_spare {S : List Nat} {lo : Nat → Int} (hS : pd_SO D S) (hl : S.length ≤ 24) (hb : ∀ x ∈ S, 0 ≤ lo x ∧ lo x ≤ 999) (hG : pd_SL D lo (pd_sz D) S S h) {x : Nat} (hx : pd_O D x) {V : Int} (hV : 0 ≤ V ∧ V ≤ 600000) (kk : post (some (.inl (pd_spare D V S lo x))) h) : bc_OK (d + 2) 48 [.inr (.inr 23), .inl (D (7 + 9 * x)), .inl (D (7 + 9 * x + 4)), .inl V] h post := by
  obtain ⟨o0, o1, -, -, o4, -⟩ := hx
  obtain ⟨g1, g2, g3, g4, g5⟩ := hG
  obtain ⟨a, ha⟩ := Int.eq_ofNat_of_zero_le o4.1
  have gl0 := pd_bd_sf (D := D) (s := 0) hb hl
  have gl1 := pd_bd_sf (D := D) (s := 1) hb hl
  have hz : ∀ y ∈ S, 0 ≤ pd_sz D y ∧ pd_sz D y ≤ 999 := fun y hy => (hS.2 y hy).2.1
  have gh0 := pd_bd_sf (D := D) (s := 0) hz hl
  have gh1 := pd_bd_sf (D := D) (s := 1) hz hl
  have t1 := pd_bd_t6 gl0
  have t2 := pd_bd_t6 gl1
  have t3 := pd_bd_t6 gh0
  have t4 := pd_bd_t6 gh1
  obtain ⟨f1, f2, f3, f4⟩ := g1 a (by omega)
  have w1 := gl0 a (by omega)
  have w2 := gl1 a (by omega)
  have w3 := gh0 a (by omega)
  have w4 := gh1 a (by omega)
  simp only at w1 w2 w3 w4
  unfold pd_spare at kk
  rw [← pd_SO_t6 hS, ← pd_SO_t6 hS] at kk
  rw [ha, Int.toNat_natCast] at kk
  rw [ha]
  refine bc_run (n := 6) ck_X4_spare rfl rfl rfl rfl (Nat.le_of_ble_eq_true rfl) ?_
  simp -implicitDefEqProofs only [k_X4_spare, ↓vl_iconst, ↓vl_bipush, ↓vl_sipush, ↓vl_lconst, ↓vl_ldc, ↓vl_ldcw, ↓vl_ldc2, ↓vl_iload0, ↓vl_aload0, ↓vl_istore0, ↓vl_iinc0, ↓vl_iload1, ↓vl_aload1, ↓vl_istore1, ↓vl_iinc1, ↓vl_iload2, ↓vl_aload2, ↓vl_istore2, ↓vl_iinc2, ↓vl_iload3, ↓vl_aload3, ↓vl_istore3, ↓vl_iinc3, ↓vl_iload4, ↓vl_istore4, ↓vl_iinc4, ↓vl_iload5, ↓vl_istore5, ↓vl_iinc5, ↓vl_iload6, ↓vl_istore6, ↓vl_iinc6, ↓vl_iload7, ↓vl_istore7, ↓vl_iinc7, ↓vl_lload5, ↓vl_lstore5, ↓vl_iadd, ↓vl_isub, ↓vl_imul, ↓vl_iand, ↓vl_ior, ↓vl_ixor, ↓vl_ishl, ↓vl_ishr, ↓vl_iushr, ↓vl_idiv, ↓vl_irem, ↓vl_ladd, ↓vl_lsub, ↓vl_lmul, ↓vl_lcmp, ↓vl_i2l, ↓vl_dup, ↓vl_dup2, ↓vl_gotoF, ↓vl_gotoB, ↓vl_nnF, ↓vl_ic_eqF, ↓vl_if_eqF, ↓vl_ic_eqB, ↓vl_if_eqB, ↓vl_ic_neF, ↓vl_if_neF, ↓vl_ic_neB, ↓vl_if_neB, ↓vl_ic_ltF, ↓vl_if_ltF, ↓vl_ic_ltB, ↓vl_if_ltB, ↓vl_ic_geF, ↓vl_if_geF, ↓vl_ic_geB, ↓vl_if_geB, ↓vl_ic_gtF, ↓vl_if_gtF, ↓vl_ic_gtB, ↓vl_if_gtB, ↓vl_ic_leF, ↓vl_if_leF, ↓vl_ic_leB, ↓vl_if_leB, ↓vl_sw, ↓vl_get, ↓vl_putI, ↓vl_putL, ↓vl_iald, ↓vl_iast, ↓vl_alen, ↓vl_aald, ↓vl_iretI, ↓vl_iretZ, ↓vl_ret, ↓vl_mark, ↓vl_markT, ↓vl_skip, ↓vl_st0, ↓vl_vi0, ↓vl_st1, ↓vl_vi1, ↓vl_st2, ↓vl_vi2, ↓vl_st3, ↓vl_vi3, ↓vl_st4, ↓vl_vi4, ↓vl_st5, ↓vl_vi5, ↓vl_st6, ↓vl_vi6, ↓vl_min, ↓vl_max, ↓vl_cpy, ↓vk_kvs, ↓vk_kvn, ↓vk_gf0, ↓vk_gv0, ↓vk_gv1, ↓vk_gv2, ↓vk_pf, ↓vk_ar, ↓vk_arr, bc_lay, bc_fn, bc_mk, bc_cs, bc_cat, bc_nl, bc_nth, bc_en, bc_sw, true_and, and_true, ↓reduceIte, reduceCtorEq, Nat.reduceEqDiff, Nat.reduceLeDiff, Nat.reduceAdd, Nat.le_refl, Nat.zero_le, Int.cast_ofNat_Int, Int.reduceEq, eq_self, true_implies, false_implies, not_true_eq_false, not_false_eq_true, bc_vr, Int.reduceToNat, Int.toNat_natCast, Int.reduceLE, Int.reduceLT, Int.reduceNeg, true_or, or_true, forall_const, Int.reduceAdd]
  refine c4_isCell o0 (by omega) ?_
  rcases o0 with e | e
  · rw [e] at kk ⊢
    have e1 : ((1 - 0 : Int)).toNat = 1 := by decide
    have e2 : ((1 - 0 : Int) * 6 + (a : Int)).toNat = 6 + a := by omega
    have e3 : ((0 : Int) * 6 + (a : Int)).toNat = a := by omega
    simp -implicitDefEqProofs only [↓vl_iconst, ↓vl_bipush, ↓vl_sipush, ↓vl_lconst, ↓vl_ldc, ↓vl_ldcw, ↓vl_ldc2, ↓vl_iload0, ↓vl_aload0, ↓vl_istore0, ↓vl_iinc0, ↓vl_iload1, ↓vl_aload1, ↓vl_istore1, ↓vl_iinc1, ↓vl_iload2, ↓vl_aload2, ↓vl_istore2, ↓vl_iinc2, ↓vl_iload3, ↓vl_aload3, ↓vl_istore3, ↓vl_iinc3, ↓vl_iload4, ↓vl_istore4, ↓vl_iinc4, ↓vl_iload5, ↓vl_istore5, ↓vl_iinc5, ↓vl_iload6, ↓vl_istore6, ↓vl_iinc6, ↓vl_iload7, ↓vl_istore7, ↓vl_iinc7, ↓vl_lload5, ↓vl_lstore5, ↓vl_iadd, ↓vl_isub, ↓vl_imul, ↓vl_iand, ↓vl_ior, ↓vl_ixor, ↓vl_ishl, ↓vl_ishr, ↓vl_iushr, ↓vl_idiv, ↓vl_irem, ↓vl_ladd, ↓vl_lsub, ↓vl_lmul, ↓vl_lcmp, ↓vl_i2l, ↓vl_dup, ↓vl_dup2, ↓vl_gotoF, ↓vl_gotoB, ↓vl_nnF, ↓vl_ic_eqF, ↓vl_if_eqF, ↓vl_ic_eqB, ↓vl_if_eqB, ↓vl_ic_neF, ↓vl_if_neF, ↓vl_ic_neB, ↓vl_if_neB, ↓vl_ic_ltF, ↓vl_if_ltF, ↓vl_ic_ltB, ↓vl_if_ltB, ↓vl_ic_geF, ↓vl_if_geF, ↓vl_ic_geB, ↓vl_if_geB, ↓vl_ic_gtF, ↓vl_if_gtF, ↓vl_ic_gtB, ↓vl_if_gtB, ↓vl_ic_leF, ↓vl_if_leF, ↓vl_ic_leB, ↓vl_if_leB, ↓vl_sw, ↓vl_get, ↓vl_putI, ↓vl_putL, ↓vl_iald, ↓vl_iast, ↓vl_alen, ↓vl_aald, ↓vl_iretI, ↓vl_iretZ, ↓vl_ret, ↓vl_mark, ↓vl_markT, ↓vl_skip, ↓vl_st0, ↓vl_vi0, ↓vl_st1, ↓vl_vi1, ↓vl_st2, ↓vl_vi2, ↓vl_st3, ↓vl_vi3, ↓vl_st4, ↓vl_vi4, ↓vl_st5, ↓vl_vi5, ↓vl_st6, ↓vl_vi6, ↓vl_min, ↓vl_max, ↓vl_cpy, ↓vk_kvs, ↓vk_kvn, ↓vk_gf0, ↓vk_gv0, ↓vk_gv1, ↓vk_gv2, ↓vk_pf, ↓vk_ar, ↓vk_arr, bc_lay, bc_fn, bc_mk, bc_cs, bc_cat, bc_nl, bc_nth, bc_en, bc_sw, true_and, and_true, ↓reduceIte, reduceCtorEq, Nat.reduceEqDiff, Nat.reduceLeDiff, Nat.reduceAdd, Nat.le_refl, Nat.zero_le, Int.cast_ofNat_Int, Int.reduceEq, eq_self, true_implies, false_implies, not_true_eq_false, not_false_eq_true, bc_vr, Int.reduceToNat, Int.toNat_natCast, Int.reduceLE, Int.reduceLT, Int.reduceNeg, true_or, or_true, forall_const, Int.reduceAdd, e1, e2, e3, g2, g5, f1, f4]
    exact ⟨by omega, by omega, by omega, by omega, by omega, by omega, ⟨by omega, by omega⟩, ⟨by omega, by omega⟩, kk⟩
  · rw [e] at kk ⊢
    have e1 : ((1 - 1 : Int)).toNat = 0 := by decide
    have e2 : ((1 - 1 : Int) * 6 + (a : Int)).toNat = a := by omega
    have e3 : ((1 : Int) * 6 + (a : Int)).toNat = 6 + a := by omega
    simp -implicitDefEqProofs only [↓vl_iconst, ↓vl_bipush, ↓vl_sipush, ↓vl_lconst, ↓vl_ldc, ↓vl_ldcw, ↓vl_ldc2, ↓vl_iload0, ↓vl_aload0, ↓vl_istore0, ↓vl_iinc0, ↓vl_iload1, ↓vl_aload1, ↓vl_istore1, ↓vl_iinc1, ↓vl_iload2, ↓vl_aload2, ↓vl_istore2, ↓vl_iinc2, ↓vl_iload3, ↓vl_aload3, ↓vl_istore3, ↓vl_iinc3, ↓vl_iload4, ↓vl_istore4, ↓vl_iinc4, ↓vl_iload5, ↓vl_istore5, ↓vl_iinc5, ↓vl_iload6, ↓vl_istore6, ↓vl_iinc6, ↓vl_iload7, ↓vl_istore7, ↓vl_iinc7, ↓vl_lload5, ↓vl_lstore5, ↓vl_iadd, ↓vl_isub, ↓vl_imul, ↓vl_iand, ↓vl_ior, ↓vl_ixor, ↓vl_ishl, ↓vl_ishr, ↓vl_iushr, ↓vl_idiv, ↓vl_irem, ↓vl_ladd, ↓vl_lsub, ↓vl_lmul, ↓vl_lcmp, ↓vl_i2l, ↓vl_dup, ↓vl_dup2, ↓vl_gotoF, ↓vl_gotoB, ↓vl_nnF, ↓vl_ic_eqF, ↓vl_if_eqF, ↓vl_ic_eqB, ↓vl_if_eqB, ↓vl_ic_neF, ↓vl_if_neF, ↓vl_ic_neB, ↓vl_if_neB, ↓vl_ic_ltF, ↓vl_if_ltF, ↓vl_ic_ltB, ↓vl_if_ltB, ↓vl_ic_geF, ↓vl_if_geF, ↓vl_ic_geB, ↓vl_if_geB, ↓vl_ic_gtF, ↓vl_if_gtF, ↓vl_ic_gtB, ↓vl_if_gtB, ↓vl_ic_leF, ↓vl_if_leF, ↓vl_ic_leB, ↓vl_if_leB, ↓vl_sw, ↓vl_get, ↓vl_putI, ↓vl_putL, ↓vl_iald, ↓vl_iast, ↓vl_alen, ↓vl_aald, ↓vl_iretI, ↓vl_iretZ, ↓vl_ret, ↓vl_mark, ↓vl_markT, ↓vl_skip, ↓vl_st0, ↓vl_vi0, ↓vl_st1, ↓vl_vi1, ↓vl_st2, ↓vl_vi2, ↓vl_st3, ↓vl_vi3, ↓vl_st4, ↓vl_vi4, ↓vl_st5, ↓vl_vi5, ↓vl_st6, ↓vl_vi6, ↓vl_min, ↓vl_max, ↓vl_cpy, ↓vk_kvs, ↓vk_kvn, ↓vk_gf0, ↓vk_gv0, ↓vk_gv1, ↓vk_gv2, ↓vk_pf, ↓vk_ar, ↓vk_arr, bc_lay, bc_fn, bc_mk, bc_cs, bc_cat, bc_nl, bc_nth, bc_en, bc_sw, true_and, and_true, ↓reduceIte, reduceCtorEq, Nat.reduceEqDiff, Nat.reduceLeDiff, Nat.reduceAdd, Nat.le_refl, Nat.zero_le, Int.cast_ofNat_Int, Int.reduceEq, eq_self, true_implies, false_implies, not_true_eq_false, not_false_eq_true, bc_vr, Int.reduceToNat, Int.toNat_natCast, Int.reduceLE, Int.reduceLT, Int.reduceNeg, true_or, or_true, forall_const, Int.reduceAdd, e1, e2, e3, g3, g4, f2, f3]
    exact ⟨by omega, by omega, by omega, by omega, by omega, by omega, ⟨by omega, by omega⟩, ⟨by omega, by omega⟩, kk⟩
end Share
