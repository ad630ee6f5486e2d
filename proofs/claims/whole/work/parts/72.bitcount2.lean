section BitCount
variable {d : Nat} {h : bc_AH} {post : Option bc_AV → bc_AH → Prop}
theorem pd_lnd (x y : Nat) (hx : x < 2147483648) (hy : y < 2147483648) : bc_and (x : Int) (y : Int) = ((x &&& y : Nat) : Int) := bc_and_nat (by omega) (by omega)
theorem pd_lu1 (x : Nat) (hx : x < 2147483648) : bc_ushr (x : Int) 1 = ((x / 2 : Nat) : Int) := bc_ushr_nat (k := 1) (by omega) (by omega)
theorem pd_lu2 (x : Nat) (hx : x < 2147483648) : bc_ushr (x : Int) 2 = ((x / 4 : Nat) : Int) := bc_ushr_nat (k := 2) (by omega) (by omega)
theorem pd_lu4 (x : Nat) (hx : x < 2147483648) : bc_ushr (x : Int) 4 = ((x / 16 : Nat) : Int) := bc_ushr_nat (k := 4) (by omega) (by omega)
theorem pd_lu8 (x : Nat) (hx : x < 2147483648) : bc_ushr (x : Int) 8 = ((x / 256 : Nat) : Int) := bc_ushr_nat (k := 8) (by omega) (by omega)
theorem pd_lu16 (x : Nat) (hx : x < 2147483648) : bc_ushr (x : Int) 16 = ((x / 65536 : Nat) : Int) := bc_ushr_nat (k := 16) (by omega) (by omega)
/-- the value of bitCount's expression -/
theorem pd_bcv {x x0 x1 x2 : Nat} (b0 : x0 < 256) (b1 : x1 < 256) (b2 : x2 < 256) (ex : x = 65536 * x2 + 256 * x1 + x0) (m1 m2 m3 m4 : Int) (e1 : m1 = ((1431655765 : Nat) : Int)) (e2 : m2 = ((858993459 : Nat) : Int)) (e3 : m3 = ((252645135 : Nat) : Int)) (e4 : m4 = ((63 : Nat) : Int)) (t1 t2 t3 t4 : Int) (f1 : t1 = (x : Int) - bc_and (bc_ushr (x : Int) 1) m1) (f2 : t2 = bc_and t1 m2 + bc_and (bc_ushr t1 2) m2) (f3 : t3 = bc_and (t2 + bc_ushr t2 4) m3) (f4 : t4 = t3 + bc_ushr t3 8) : bc_and (t4 + bc_ushr t4 16) m4 = ((pd_p8 x0 + pd_p8 x1 + pd_p8 x2 : Nat) : Int) := by
  subst e1 e2 e3 e4
  have s1 := pd_bc1 b0 b1 b2
  rw [← ex] at s1
  have y0 := (pd_ty x0 b0).2
  have y1 := (pd_ty x1 b1).2
  have y2 := (pd_ty x2 b2).2
  have le1 : x / 2 &&& 1431655765 ≤ x / 2 := Nat.and_le_left
  rw [pd_lu1 x (by omega), pd_lnd (x / 2) 1431655765 (by omega) (by omega)] at f1
  have g1 : t1 = ((x - (x / 2 &&& 1431655765) : Nat) : Int) := by
    generalize x / 2 &&& 1431655765 = w at *
    omega
  rw [s1] at g1
  have s2 := pd_bc2 y0 y1 y2
  have t1b : 65536 * pd_y8 x2 + 256 * pd_y8 x1 + pd_y8 x0 < 2147483648 := by omega
  generalize 65536 * pd_y8 x2 + 256 * pd_y8 x1 + pd_y8 x0 = u1 at g1 s2 t1b
  subst g1
  rw [pd_lnd u1 858993459 t1b (by omega), pd_lu2 u1 t1b, pd_lnd (u1 / 4) 858993459 (by omega) (by omega)] at f2
  have g2 : t2 = (((u1 &&& 858993459) + (u1 / 4 &&& 858993459) : Nat) : Int) := by
    generalize u1 &&& 858993459 = w1 at *
    generalize u1 / 4 &&& 858993459 = w2 at *
    omega
  rw [s2] at g2
  have z0 := pd_tz x0 b0
  have z1 := pd_tz x1 b1
  have z2 := pd_tz x2 b2
  have g2' : t2 = ((65536 * pd_z8 x2 + 256 * pd_z8 x1 + pd_z8 x0 : Nat) : Int) := g2
  have s3 := pd_bc3 z0.2.1 ⟨z1.2.1, z1.1⟩ ⟨z2.2.1, z2.1⟩
  rw [z0.2.2.1, z1.2.2.1, z2.2.2.1] at s3
  have t2b : 65536 * pd_z8 x2 + 256 * pd_z8 x1 + pd_z8 x0 < 1000000000 := by omega
  clear g2 s2 s1
  generalize 65536 * pd_z8 x2 + 256 * pd_z8 x1 + pd_z8 x0 = u2 at g2' s3 t2b
  subst g2'
  have i3 : (u2 : Int) + ((u2 / 16 : Nat) : Int) = ((u2 + u2 / 16 : Nat) : Int) := by omega
  rw [pd_lu4 u2 (by omega), i3, pd_lnd (u2 + u2 / 16) 252645135 (by omega) (by omega), s3] at f3
  have s4 := pd_bc4 z0.2.2.2 z1.2.2.2 z2.2.2.2
  have t3b : 65536 * pd_p8 x2 + 256 * pd_p8 x1 + pd_p8 x0 < 1000000 := by omega
  generalize 65536 * pd_p8 x2 + 256 * pd_p8 x1 + pd_p8 x0 = u3 at f3 s4 t3b
  subst f3
  have i5 : (u3 : Int) + ((u3 / 256 : Nat) : Int) = ((u3 + u3 / 256 : Nat) : Int) := by omega
  rw [pd_lu8 u3 (by omega), i5] at f4
  have t4b : u3 + u3 / 256 < 2000000 := by omega
  generalize u3 + u3 / 256 = u4 at f4 s4 t4b
  subst f4
  have i6 : (u4 : Int) + ((u4 / 65536 : Nat) : Int) = ((u4 + u4 / 65536 : Nat) : Int) := by omega
  rw [pd_lu16 u4 (by omega), i6, pd_lnd _ 63 (by omega) (by omega), s4]
theorem c8_bitCount {p : Nat → Bool} {n : Nat} (hn : n ≤ 24) (kk : post (some (.inl (pd_cnt p n : Int))) h) : bc_OK (d + 1) 136 [.inl (pd_mask p n)] h post := by
  obtain ⟨x, e, hx, x3, x4⟩ := pd_subm (x := pd_mask p n) (pd_mask_vr p n) hn (p := p) (fun i hi q => by
    rw [pd_mask_bit _ _ i (by omega) hi, Bool.and_eq_true, decide_eq_true_eq] at q; exact q)
  have h24 : x < 2 ^ 24 := Nat.lt_of_lt_of_le hx (Nat.pow_le_pow_right (by omega) hn)
  have hc := pd_cnt24 (p := fun i => decide (i < n) && p i) (x := x) (by omega) (fun i hi => by
    rw [← x4 i (by omega), pd_mask_bit _ _ i (by omega) (by omega)])
  rw [pd_cnt_ext n 24 hn] at hc
  rw [← hc] at kk
  rw [e]
  refine bc_run (n := 1) ck_J6_bitCount_0f7a4 rfl rfl rfl rfl (Nat.le_of_ble_eq_true rfl) ?_
  simp -implicitDefEqProofs only [k_J6_bitCount_0f7a4, ↓vl_iconst, ↓vl_bipush, ↓vl_sipush, ↓vl_lconst, ↓vl_ldc, ↓vl_ldcw, ↓vl_ldc2, ↓vl_iload0, ↓vl_aload0, ↓vl_istore0, ↓vl_iinc0, ↓vl_iload1, ↓vl_aload1, ↓vl_istore1, ↓vl_iinc1, ↓vl_iload2, ↓vl_aload2, ↓vl_istore2, ↓vl_iinc2, ↓vl_iload3, ↓vl_aload3, ↓vl_istore3, ↓vl_iinc3, ↓vl_iload4, ↓vl_istore4, ↓vl_iinc4, ↓vl_iload5, ↓vl_istore5, ↓vl_iinc5, ↓vl_iload6, ↓vl_istore6, ↓vl_iinc6, ↓vl_iload7, ↓vl_istore7, ↓vl_iinc7, ↓vl_lload5, ↓vl_lstore5, ↓vl_iadd, ↓vl_isub, ↓vl_imul, ↓vl_iand, ↓vl_ior, ↓vl_ixor, ↓vl_ishl, ↓vl_ishr, ↓vl_iushr, ↓vl_idiv, ↓vl_irem, ↓vl_ladd, ↓vl_lsub, ↓vl_lmul, ↓vl_lcmp, ↓vl_i2l, ↓vl_dup, ↓vl_dup2, ↓vl_gotoF, ↓vl_gotoB, ↓vl_nnF, ↓vl_ic_eqF, ↓vl_if_eqF, ↓vl_ic_eqB, ↓vl_if_eqB, ↓vl_ic_neF, ↓vl_if_neF, ↓vl_ic_neB, ↓vl_if_neB, ↓vl_ic_ltF, ↓vl_if_ltF, ↓vl_ic_ltB, ↓vl_if_ltB, ↓vl_ic_geF, ↓vl_if_geF, ↓vl_ic_geB, ↓vl_if_geB, ↓vl_ic_gtF, ↓vl_if_gtF, ↓vl_ic_gtB, ↓vl_if_gtB, ↓vl_ic_leF, ↓vl_if_leF, ↓vl_ic_leB, ↓vl_if_leB, ↓vl_sw, ↓vl_get, ↓vl_putI, ↓vl_putL, ↓vl_iald, ↓vl_iast, ↓vl_alen, ↓vl_aald, ↓vl_iretI, ↓vl_iretZ, ↓vl_ret, ↓vl_mark, ↓vl_markT, ↓vl_skip, ↓vl_st0, ↓vl_vi0, ↓vl_st1, ↓vl_vi1, ↓vl_st2, ↓vl_vi2, ↓vl_st3, ↓vl_vi3, ↓vl_st4, ↓vl_vi4, ↓vl_st5, ↓vl_vi5, ↓vl_st6, ↓vl_vi6, ↓vl_min, ↓vl_max, ↓vl_cpy, ↓vk_kvs, ↓vk_kvn, ↓vk_gf0, ↓vk_gv0, ↓vk_gv1, ↓vk_gv2, ↓vk_pf, ↓vk_ar, ↓vk_arr, bc_lay, bc_fn, bc_mk, bc_cs, bc_cat, bc_nl, bc_nth, bc_en, bc_sw, true_and, and_true, ↓reduceIte, reduceCtorEq, Nat.reduceEqDiff, Nat.reduceLeDiff, Nat.reduceAdd, Nat.le_refl, Nat.zero_le, Int.cast_ofNat_Int, Int.reduceEq, eq_self, true_implies, false_implies, not_true_eq_false, not_false_eq_true, bc_vr, Int.reduceToNat, Int.toNat_natCast, Int.reduceLE, Int.reduceLT, Int.reduceNeg, true_or, or_true, forall_const, Int.reduceAdd]
  rw [pd_bcv (x := x) (x0 := x % 256) (x1 := x / 256 % 256) (x2 := x / 65536) (Nat.mod_lt _ (by omega)) (Nat.mod_lt _ (by omega)) (by omega) (by omega) _ _ _ _ (by rw [Int.cast_ofNat_Int]) (by rw [Int.cast_ofNat_Int]) (by rw [Int.cast_ofNat_Int]) (by rw [Int.cast_ofNat_Int]) _ _ _ _ rfl rfl rfl rfl]
  exact kk
end BitCount
