/-! the law's own order, with its handler -/
def lo_y : MethodName := ⟨"BlockCrossLaw", "order", "(LBlockCross;II[J)I"⟩
def lo_ws : List Cond := .codeWith lo_y method_3_code 5 (some .int) [(0, 10, 13, 13)] :: bc_GW
theorem lo_in {ws : List Cond} (h : ∀ w ∈ ws, w ∈ bc_GW) : GoodIn lo_ws ws := fun w hw => ⟨List.mem_cons_of_mem _ (h w hw), bc_GW_good (h w hw)⟩
theorem lo_w : bc_inG 682 (.methodLink "BlockCrossLaw" 7 (bc_y 59)) = true ∧ bc_inG 681 (.classLink "BlockCrossLaw" 13 "java/util/NoSuchElementException") = true := by decide +kernel
theorem bx_wsV59 {own : String} {idx pos : Nat} (hw : bc_inG pos (.methodLink own idx (bc_y 59)) = true) : ∀ w ∈ wsV own idx "BlockCross" (bc_y 59) (bc_ws 59), w ∈ bc_GW := by
  intro w hw'
  have hmk := bc_mok_all 59 (by decide +kernel)
  unfold bc_mok at hmk
  rw [if_neg (by decide +kernel)] at hmk
  simp only [Bool.and_eq_true, decide_eq_true_eq] at hmk
  have k1 := bc_mcode 59 (by decide +kernel)
  obtain ⟨⟨⟨⟨⟨⟨⟨k2, k3⟩, k4⟩, k5⟩, k6⟩, k7⟩, k8⟩, k9⟩ := hmk
  rcases List.mem_append.mp hw' with h1 | h1
  · rcases List.mem_cons.mp h1 with e | h1
    · rw [e]; exact bc_inG_mem hw
    · rcases List.mem_cons.mp h1 with e | h1
      · rw [e]; exact bc_inG_mem k2
      · rcases List.mem_cons.mp h1 with e | h1
        · rw [e]; exact bc_inG_mem k3
        · rcases List.mem_cons.mp h1 with e | h1
          · rw [e]; exact bc_inG_mem k4
          · cases h1
  · rcases List.mem_cons.mp h1 with e | h1
    · rw [e]; exact k1
    · exact h1
theorem lo_up (Z : bc_ZT) (h : bc_AH) (x : Int32) : (bc_WS Z h).set 117 (Z.2.1 117, .inl (Z.2.2.2.1, 1, .inr (.inl (vp_updL (fun j => Int64.ofInt (h 117 j)) (Int32.ofInt 0).toNatClampNeg x.toInt64)))) = bc_WS Z (bc_up h 117 0 x.toInt) := by
  refine bc_WS_set Z h _ 117 ?_ (fun j hj => bc_E_up_ne Z h 0 x.toInt hj)
  have e2 : (fun j => Int64.ofInt (bc_up h 117 0 x.toInt 117 j)) = vp_updL (fun j => Int64.ofInt (h 117 j)) (Int32.ofInt 0).toNatClampNeg x.toInt64 := by
    funext j
    have hz : (Int32.ofInt 0).toNatClampNeg = 0 := by decide +kernel
    have hx : Int64.ofInt x.toInt = x.toInt64 := by
      rw [← Int32.toInt_toInt64, Int64.ofInt_toInt]
    unfold vp_updL bc_up
    rw [hz]
    by_cases hj : j = 0
    · subst hj; simp [hx]
    · simp [hj]
  rw [← e2]
  rfl
def lo_Q (Z : bc_ZT) (sz : Nat) (h : bc_AH) (ok : Bool) (V : Int) : Array Value → State → Outcome → State → Prop := va_Qi (fun r (u : bc_AH) => (ok = true ∧ r = 0 ∧ u = bc_up h 117 0 (Int32.ofInt V).toInt) ∨ (ok = false ∧ r = 1 ∧ u = h)) (fun u t => va_P Z.1 vwCl (bc_WS Z u) t.heap) (bc_A Z sz)
set_option maxHeartbeats 2000000 in
theorem lo_order {l : Launch} (hl : l.stackTraces = false) {T D : Nat → Int} {n F o w : Int} {Hs : List (Nat → Int)} {h : bc_AH} (hR : pd_RC T n F D Hs h) (hSV : pd_SV T n F D Hs) (ho : bc_vr o) (hw : bc_vr w) (Z : bc_ZT) (sz : Nat) :
    vx_Met l lo_y lo_ws (bx_rm 12) (va_Pc [.ref (Z.2.1 0), .int (Int32.ofInt o), .int (Int32.ofInt w), .ref (Z.2.1 117)] (bx_B Z sz h)) (lo_Q Z sz h (pd_ordOK D o w) (pd_ordV D o w)) (fun _ _ _ => False) 1 6 (bc_A Z sz) := by
  refine vx_ofWH (cc := method_3_code) (maxL := 5) (ret := some .int) (hh := [(0, 10, 13, 13)]) (by decide +kernel) rfl ?_
  intro p e s m args' below meth c s₁ B hml hv
  obtain ⟨rfl, hsz, hW, hP, hT⟩ := hv
  subst hsz
  have hts := atoms_spec (ws := lo_ws) B.pre
  have htab := vx_table (x := lo_y) B (hts _ List.mem_cons_self)
  have hx := B.exec
  have hb := B.bytes
  have hown : s.vm.findClass "BlockCrossLaw" = some m.cls := findClass_of_methodNamed B.named
  have hlv := lv_entry [.ref (Z.2.1 0), .int (Int32.ofInt o), .int (Int32.ofInt w), .ref (Z.2.1 117)] (n := 5) (Nat.le_of_ble_eq_true rfl)
  rw [lg_entry_eq]
  generalize hlsg : (lg_sl ([.ref (Z.2.1 0), .int (Int32.ofInt o), .int (Int32.ofInt w), .ref (Z.2.1 117)] : List Value) ++ List.replicate (5 - (lg_sl ([.ref (Z.2.1 0), .int (Int32.ofInt o), .int (Int32.ofInt w), .ref (Z.2.1 117)] : List Value)).length) Slot.unset).toArray = ls at hlv ⊢
  have hA : ∀ q, s.heap.size ≤ q → bc_A Z s.heap.size q := fun q hq => Or.inr hq
  have d0 : decode method_3_code 0 = .ok (.aload_n 3, 1) := by decide +kernel
  have d1 : decode method_3_code 1 = .ok (.iconst 0, 1) := by decide +kernel
  have d2 : decode method_3_code 2 = .ok (.aload_n 0, 1) := by decide +kernel
  have d3 : decode method_3_code 3 = .ok (.iload_n 1, 1) := by decide +kernel
  have d4 : decode method_3_code 4 = .ok (.iload_n 2, 1) := by decide +kernel
  have d5 : decode method_3_code 5 = .ok (.invokevirtual 7, 3) := by decide +kernel
  have d8 : decode method_3_code 8 = .ok (.i2l, 1) := by decide +kernel
  have d9 : decode method_3_code 9 = .ok (.lastore, 1) := by decide +kernel
  have d10 : decode method_3_code 10 = .ok (.goto 7, 3) := by decide +kernel
  have d13 : decode method_3_code 13 = .ok (.astore 4, 2) := by decide +kernel
  have d15 : decode method_3_code 15 = .ok (.iconst 1, 1) := by decide +kernel
  have d16 : decode method_3_code 16 = .ok (.ireturn, 1) := by decide +kernel
  have d17 : decode method_3_code 17 = .ok (.iconst 0, 1) := by decide +kernel
  have d18 : decode method_3_code 18 = .ok (.ireturn, 1) := by decide +kernel
  refine lv_aload_n hx hb d0 rfl (lv_at hlv 3 rfl) ?_
  refine lv_iconst hx hb d1 rfl ?_
  refine lv_aload_n hx hb d2 rfl (lv_at hlv 0 rfl) ?_
  refine lv_iload_n hx hb d3 rfl (lv_at hlv 1 rfl) ?_
  refine lv_iload_n hx hb d4 rfl (lv_at hlv 2 rfl) ?_
  have hrecv : ∃ cell : Cell, s.heap[Z.2.1 0]? = some cell ∧ cell.vm.isStatics = false ∧ s.vm.findClass "BlockCross" = some cell.cls := by
    obtain ⟨q, hq, -⟩ := bc_lay_cl 0 (by decide) rfl
    have hge := bc_WS_get Z h (k := 0) (by decide)
    rw [bc_E_0 Z h (k := 0) (ci := (bc_lay 0).2.1) (fs := (bc_lay 0).2.2) rfl] at hge
    have h1 := va_recv hW.1 hP hq hge
    have h2 : q.1 = "BlockCross" := by
      have : (vwCl[(bc_lay 0).2.1]?).map (fun q => q.1) = some "BlockCross" := rfl
      rw [hq] at this
      exact Option.some.inj this
    rw [h2] at h1
    exact h1
  have hpre : PreV s s.heap "BlockCross" (Z.2.1 0) (va_Pc [.ref (Z.2.1 0), .int (Int32.ofInt o), .int (Int32.ofInt w)] (bx_B Z s.heap.size h)) [.int (Int32.ofInt o), .int (Int32.ofInt w)] := ⟨bx_blind Z _ _ h, hrecv, bx_pre (locs := []) hA hW hT hP va_S.rf⟩
  refine vx_calli (post := fun r (_ : Unit) => pd_ordOK D o w = true ∧ r = Int32.ofInt (pd_ordV D o w)) (px := fun _ : Unit => pd_ordOK D o w = false) (B := fun _ t => va_P Z.1 vwCl (bc_WS Z h) t.heap) (BX := fun E _ t => E = "java/util/NoSuchElementException" ∧ va_P Z.1 vwCl (bc_WS Z h) t.heap) (A1 := bc_A Z s.heap.size) (AX := bc_A Z s.heap.size) (free := bc_A Z s.heap.size) (mc := 1) (ms := 6) (A0 := bc_A Z s.heap.size) (H0 := s.heap) (rest := [.int (Int32.ofInt 0), .ref (Z.2.1 117)])
    (vx_runV (Ts := lo_ws) (own := "BlockCrossLaw") (nL := 5) ⟨hx, hb, hml, hown, hts⟩ (ox_order hl hR hSV ho hw Z s.heap.size) (cwV 2 hts (lo_in (bx_wsV59 lo_w.1)) rfl rfl rfl (by decide +kernel) ⟨Nat.le_of_ble_eq_true rfl, Nat.le_of_ble_eq_true rfl⟩) hpre rfl rfl hlv.1 rfl (lv_room (Nat.le_of_ble_eq_true rfl)) d5 ⟨Nat.le_of_ble_eq_true rfl, Nat.le_of_ble_eq_true rfl⟩)
    (va_S.rf (A := bc_A Z s.heap.size)) (fun q _ hq => hq) (fun q hq => hq) (fun q _ hq => hq) (fun E ce q9 u t H1 locs1 ht hal hpx hBX hz hk hS1 hcell hcv hcl => ?_) (fun r u t H1 locs1 ht hal hpost hB hz hk hS1 => ?_)
  · obtain ⟨rfl, hP1⟩ := hBX
    rw [ht] at hP1
    refine vx_catch (own := "BlockCrossLaw") (name := "java/util/NoSuchElementException") hown [] ⟨0, 10, 13, 13⟩ [] htab (fun z hz => nomatch hz) (by decide) (by decide) (hts _ (List.mem_cons_of_mem _ (bc_inG_mem lo_w.2))) (va_Nw.use rfl hT.2.2.2.1) hcell hcv hcl ?_
    refine lv_astore hx hb d13 hlv (by decide) rfl (fun ls' hlv' => ?_)
    refine lv_iconst hx hb d15 rfl ?_
    exact vx_ret (W.iret (Qc := lo_Q Z s.heap.size h (pd_ordOK D o w) (pd_ordV D o w)) hx hb B.returns (fun t2 ht2 _ => ⟨⟨1, h, rfl, Or.inr ⟨hpx, rfl, rfl⟩, by show va_P Z.1 vwCl (bc_WS Z h) t2.heap; rw [ht2]; exact hP1⟩, hS1.F ht2⟩) hS1.2.2 d16 B.notSynchronized)
  · obtain ⟨hok, rfl⟩ := hpost
    rw [ht] at hB
    refine lv_i2l (v := (Int32.ofInt (pd_ordV D o w)).toInt64) hx hb d8 rfl ?_
    have hge := bc_WS_get Z h (k := 117) (by decide)
    have hge2 : (bc_WS Z h)[117]? = some (Z.2.1 117, .inl (Z.2.2.2.1, 1, .inr (.inl (fun j => Int64.ofInt (h 117 j))))) := hge
    refine va_last hx hb hW.1 hB (bc_WK_D hW h) hS1 117 1 hge2 rfl (bc_in2 (i := 0) (n := 1) (by omega) (by decide) (by omega)) d9 (fun H2 locs2 hP2 _ hS2 => ?_)
    rw [lo_up] at hP2
    refine lv_goto (off := 7) (tgt := 17) hx hb d10 (by decide) ?_
    refine lv_iconst hx hb d17 rfl ?_
    exact vx_ret (W.iret (Qc := lo_Q Z s.heap.size h (pd_ordOK D o w) (pd_ordV D o w)) hx hb B.returns (fun t2 ht2 _ => ⟨⟨0, bc_up h 117 0 (Int32.ofInt (pd_ordV D o w)).toInt, rfl, Or.inl ⟨hok, rfl, rfl⟩, by show va_P Z.1 vwCl (bc_WS Z (bc_up h 117 0 (Int32.ofInt (pd_ordV D o w)).toInt)) t2.heap; rw [ht2]; exact hP2⟩, hS2.F ht2⟩) hS2.2.2 d18 B.notSynchronized)
section Thrown
variable {d : Nat} {h : bc_AH} {post : Option bc_AV → bc_AH → Prop}
theorem p7_thrown (kk : post (some (.inl (h 104 0))) h) : bc_OK (d + 1) 79 [.inr (.inr 104)] h post := by
  refine bc_run (n := 1) ck_X7_thrown rfl rfl rfl rfl (Nat.le_of_ble_eq_true rfl) ?_
  simp -implicitDefEqProofs only [k_X7_thrown, ↓vl_iconst, ↓vl_bipush, ↓vl_sipush, ↓vl_lconst, ↓vl_ldc, ↓vl_ldcw, ↓vl_ldc2, ↓vl_iload0, ↓vl_aload0, ↓vl_istore0, ↓vl_iinc0, ↓vl_iload1, ↓vl_aload1, ↓vl_istore1, ↓vl_iinc1, ↓vl_iload2, ↓vl_aload2, ↓vl_istore2, ↓vl_iinc2, ↓vl_iload3, ↓vl_aload3, ↓vl_istore3, ↓vl_iinc3, ↓vl_iload4, ↓vl_istore4, ↓vl_iinc4, ↓vl_iload5, ↓vl_istore5, ↓vl_iinc5, ↓vl_iload6, ↓vl_istore6, ↓vl_iinc6, ↓vl_iload7, ↓vl_istore7, ↓vl_iinc7, ↓vl_lload5, ↓vl_lstore5, ↓vl_iadd, ↓vl_isub, ↓vl_imul, ↓vl_iand, ↓vl_ior, ↓vl_ixor, ↓vl_ishl, ↓vl_ishr, ↓vl_iushr, ↓vl_idiv, ↓vl_irem, ↓vl_ladd, ↓vl_lsub, ↓vl_lmul, ↓vl_lcmp, ↓vl_i2l, ↓vl_dup, ↓vl_dup2, ↓vl_gotoF, ↓vl_gotoB, ↓vl_nnF, ↓vl_ic_eqF, ↓vl_if_eqF, ↓vl_ic_eqB, ↓vl_if_eqB, ↓vl_ic_neF, ↓vl_if_neF, ↓vl_ic_neB, ↓vl_if_neB, ↓vl_ic_ltF, ↓vl_if_ltF, ↓vl_ic_ltB, ↓vl_if_ltB, ↓vl_ic_geF, ↓vl_if_geF, ↓vl_ic_geB, ↓vl_if_geB, ↓vl_ic_gtF, ↓vl_if_gtF, ↓vl_ic_gtB, ↓vl_if_gtB, ↓vl_ic_leF, ↓vl_if_leF, ↓vl_ic_leB, ↓vl_if_leB, ↓vl_sw, ↓vl_get, ↓vl_putI, ↓vl_putL, ↓vl_iald, ↓vl_iast, ↓vl_alen, ↓vl_aald, ↓vl_iretI, ↓vl_iretZ, ↓vl_ret, ↓vl_mark, ↓vl_markT, ↓vl_skip, ↓vl_st0, ↓vl_vi0, ↓vl_st1, ↓vl_vi1, ↓vl_st2, ↓vl_vi2, ↓vl_st3, ↓vl_vi3, ↓vl_st4, ↓vl_vi4, ↓vl_st5, ↓vl_vi5, ↓vl_st6, ↓vl_vi6, ↓vl_min, ↓vl_max, ↓vl_cpy, ↓vk_kvs, ↓vk_kvn, ↓vk_gf0, ↓vk_gv0, ↓vk_gv1, ↓vk_gv2, ↓vk_pf, ↓vk_ar, ↓vk_arr, bc_lay, bc_fn, bc_mk, bc_cs, bc_cat, bc_nl, bc_nth, bc_en, bc_sw, true_and, and_true, ↓reduceIte, reduceCtorEq, Nat.reduceEqDiff, Nat.reduceLeDiff, Nat.reduceAdd, Nat.le_refl, Nat.zero_le, Int.cast_ofNat_Int, Int.reduceEq, eq_self, true_implies, false_implies, not_true_eq_false, not_false_eq_true, bc_vr, Int.reduceToNat, Int.toNat_natCast, Int.reduceLE, Int.reduceLT, Int.reduceNeg, true_or, or_true, forall_const, Int.reduceAdd]
  exact kk
end Thrown
