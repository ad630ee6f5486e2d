/-! the law's order (289) -/
set_option maxRecDepth 100000 in
theorem lo_w4 : lw_tbl[680]? = some (.codeWith lo_y method_3_code 5 (some .int) [(0, 10, 13, 13)]) := rfl
theorem lo_wsS : ∀ w ∈ va_wsS bc_Rlaw 43 lo_y lo_ws, w ∈ bc_GW := by
  intro w hw'
  have w1 : bc_inG 678 (.methodLink bc_Rlaw 43 lo_y) = true := by decide +kernel
  have w2 : bc_inG 679 (.static lo_y) = true := by decide +kernel
  have w3 : bc_inG 74 (.initialized lo_y.cls) = true := by decide +kernel
  rcases List.mem_append.mp hw' with h1 | h1
  · rcases List.mem_cons.mp h1 with e | h1
    · rw [e]; exact bc_inG_mem w1
    · rcases List.mem_cons.mp h1 with e | h1
      · rw [e]; exact bc_inG_mem w2
      · rcases List.mem_cons.mp h1 with e | h1
        · rw [e]; exact bc_inG_mem w3
        · cases h1
  · rcases List.mem_cons.mp h1 with e | h1
    · rw [e]; exact bc_gw lo_w4 rfl
    · exact h1
theorem pd_RC_117 {T D : Nat → Int} {n F x : Int} {Hs : List (Nat → Int)} {h : bc_AH} (hR : pd_RC T n F D Hs h) : pd_RC T n F D Hs (bc_up h 117 0 x) :=
  pd_RC_fr hR (fun c a _ => bc_up_row (by omega)) (by rw [bc_up_row (by omega)]; exact hR.2.2.2.1)
theorem pd_RM_117 {T D : Nat → Int} {n F x : Int} {Hs : List (Nat → Int)} {h : bc_AH} (hR : pd_RM T n F D Hs h) : pd_RM T n F D Hs (bc_up h 117 0 x) :=
  pd_RM_fr hR (fun j _ _ _ _ _ _ => by rw [bc_up_row (by omega)]) (fun c _ a => bc_up_row (by omega))
section LawO
variable {p : Program} {l : Launch} {e : Env} {s : State} {m : MethodId} {args : Array Value} {below : List Frame} {meth : Method} {c : Code} {Q : State → Prop} {b L : Nat} {xs : Nat → Int32} {Z : bc_ZT} {A : Nat → Prop} {i cells slots : Nat} {h : bc_AH} {H : Heap} {locs : List Loc} {ls : Array Slot}
/-- script[i + k], whatever else the frame holds -/
theorem lo_arg (C : lc_X p s m c args b L xs Z A) {pc k : Nat} {rest : List Value} (hk : i + k < L) (d0 : decode code pc = .ok (.aload_n 0, 1)) (d1 : decode code (pc + 1) = .ok (.iload 4, 2)) (d2 : decode code (pc + 3) = .ok (.iconst (k : Int), 1)) (d3 : decode code (pc + 4) = .ok (.iadd, 1)) (d4 : decode code (pc + 5) = .ok (.iaload, 1)) (hS : va_S A s.heap H locs) (h0 : ls[0]? = some (.val (.ref b))) (h4 : ls[4]? = some (.val (.int (Int32.ofInt (i : Int))))) (kk : W p l e room_1 s m args below meth c H locs cells slots Q (F0 m (pc + 6) ls (bc_cv Z.2.1 (.inl (xs (i + k)).toInt) :: rest))) : W p l e room_1 s m args below meth c H locs cells slots Q (F0 m pc ls rest) := by
  have hL3 : L ≤ 3072 := C.2.2.2.2.2.2.2.2.2.2
  refine lv_aload_n C.1 C.2.1 d0 rfl h0 ?_
  refine lv_iload C.1 C.2.1 d1 h4 ?_
  refine lv_iconst C.1 C.2.1 d2 rfl ?_
  refine lv_iadd C.1 C.2.1 d3 ?_
  have e1 : Int32.ofInt (i : Int) + Int32.ofInt (k : Int) = Int32.ofInt ((i + k : Nat) : Int) := by rw [← Int32.ofInt_add]; congr 1
  rw [e1]
  refine va_sld C.1 C.2.1 C.2.2.2.2.2.2.2.1 C.2.2.2.2.2.2.2.2.1 C.2.2.2.2.2.2.2.2.2.1 hS (bc_in2 (by omega) (by omega) (by omega)) d4 ?_
  rw [bc_cl2 (by omega) (by omega), Int.toNat_natCast]
  have e2 : bc_cv Z.2.1 (.inl (xs (i + k)).toInt) = .int (xs (i + k)) := by
    show Value.int (Int32.ofInt (xs (i + k)).toInt) = _
    rw [Int32.ofInt_toInt]
  rw [e2] at kk
  exact kk
/-- behind law.order: r in local 5 -/
theorem lo_306 (C : lc_X p s m c args b L xs Z A) (hi : i + 6 ≤ L) {T D : Nat → Int} {n F : Int} {Hs : List (Nat → Int)} (hR : pd_RC T n F D Hs h) (hM : pd_RM T n F D Hs h) (hSV : pd_SV T n F D Hs) (hroomc : cells ≤ 601024 ∧ slots ≤ 7293034) (kk : ∀ h', lc_I h' → lc_W p l e s m args below meth c Q b Z A 792 i [] h' cells slots) {o w : Int} (eo : o = (xs (i + 1)).toInt) (ew : w = (xs (i + 2)).toInt) {r : Int32} (hr : (pd_ordOK D o w = true ∧ r = 0 ∧ h 117 0 = (Int32.ofInt (pd_ordV D o w)).toInt) ∨ (pd_ordOK D o w = false ∧ r = 1)) (hP : va_P Z.1 vwCl (bc_WS Z h) H) (hS : va_S A s.heap H locs) (hL : lc_L Z b i ls) : W p l e room_1 s m args below meth c H locs cells slots Q (F0 m 306 ls [.int r]) := by
  have d306 : decode code 306 = .ok (.istore 5, 2) := by decide +kernel
  have d308 : decode code 308 = .ok (.aload_n 2, 1) := by decide +kernel
  have d321 : decode code 321 = .ok (.invokevirtual 48, 3) := by decide +kernel
  have d324 : decode code 324 = .ok (.istore 6, 2) := by decide +kernel
  have d326 : decode code 326 = .ok (.aload_n 2, 1) := by decide +kernel
  have d327 : decode code 327 = .ok (.invokevirtual 49, 3) := by decide +kernel
  have d330 : decode code 330 = .ok (.iload 5, 2) := by decide +kernel
  have d332 : decode code 332 = .ok (.if_icmp .eq 5, 3) := by decide +kernel
  have d337 : decode code 337 = .ok (.iload 5, 2) := by decide +kernel
  have d339 : decode code 339 = .ok (.ifCond .ne 15, 3) := by decide +kernel
  have d342 : decode code 342 = .ok (.aload_n 3, 1) := by decide +kernel
  have d343 : decode code 343 = .ok (.iconst 0, 1) := by decide +kernel
  have d344 : decode code 344 = .ok (.laload, 1) := by decide +kernel
  have d345 : decode code 345 = .ok (.iload 6, 2) := by decide +kernel
  have d347 : decode code 347 = .ok (.i2l, 1) := by decide +kernel
  have d348 : decode code 348 = .ok (.lcmp, 1) := by decide +kernel
  have d349 : decode code 349 = .ok (.ifCond .eq 5, 3) := by decide +kernel
  have d354 : decode code 354 = .ok (.goto 438, 3) := by decide +kernel
  have hx := C.1
  have hb := C.2.1
  have hW := C.2.2.2.2.2.2.1
  have ho : bc_vr o := by rw [eo]; exact bc_vr_ti _
  have hw : bc_vr w := by rw [ew]; exact bc_vr_ti _
  refine lv_istore (nL := 7) hx hb d306 (lc_L_has hL) (by decide) rfl (fun ls1 h1 => ?_)
  have h1' : lv_has ls1 7 ((5, .int r) :: lc_lv Z b (Int32.ofInt (i : Int))) := h1
  refine lv_aload_n hx hb d308 rfl (lv_at h1' 4 rfl) ?_
  refine lo_arg (k := 1) C (by omega) (by decide +kernel) (by decide +kernel) (by decide +kernel) (by decide +kernel) (by decide +kernel) hS (lv_at h1' 2 rfl) (lv_at h1' 1 rfl) ?_
  refine lo_arg (k := 2) C (by omega) (by decide +kernel) (by decide +kernel) (by decide +kernel) (by decide +kernel) (by decide +kernel) hS (lv_at h1' 2 rfl) (lv_at h1' 1 rfl) ?_
  rw [← eo, ← ew]
  refine bc_l_virtual (d := 5) (idx := 48) (mj := 107) (pos := 932) (r := 104) (as := [.inl o, .inl w]) (rest := []) (P := fun v x => ((pd_ordOK D o w = true ∧ v = some (.inl (pd_ordV D o w)) ∧ x 104 0 = 0) ∨ (pd_ordOK D o w = false ∧ v = some (.inl 0) ∧ x 104 0 = 1)) ∧ pd_RM T n F D Hs x ∧ pd_gM h x) hx hb C.2.2.1 C.2.2.2.1 C.2.2.2.2.1 C.2.2.2.2.2.1 hW hP hS h1'.1 d321 (by decide +kernel) (by decide +kernel) rfl (Nat.zero_le _) rfl rfl rfl (by omega) hroomc (by
    rw [← bc_OK_eq]
    exact p7_order (d := 0) hM hSV ho hw (fun a x z y g => ⟨Or.inl ⟨a, rfl, z⟩, y, g⟩) (fun a x z y g => ⟨Or.inr ⟨a, rfl, z⟩, y, g⟩)) (fun v h2 H2 locs2 hp hP2 hS2 => ?_)
  obtain ⟨hv, hM2, g2⟩ := hp
  have hI2 : lc_I h2 := ⟨T, n, F, D, Hs, pd_RC_gM hR g2, hM2, hSV⟩
  have fin : ∀ (H3 : Heap) (locs3 : List Loc) (ls3 : Array Slot), va_P Z.1 vwCl (bc_WS Z h2) H3 → va_S A s.heap H3 locs3 → lc_L Z b i ls3 → W p l e room_1 s m args below meth c H3 locs3 cells slots Q (F0 m 354 ls3 []) := fun H3 locs3 ls3 hP3 hS3 hL3 => lv_goto (off := 438) (tgt := 792) hx hb d354 (by decide) (kk h2 hI2 H3 locs3 ls3 hP3 hS3 hL3)
  have go : ∀ V : Int, v = some (.inl V) → (pd_ordOK D o w = true → V = pd_ordV D o w) → (pd_ordOK D o w = true ∧ h2 104 0 = 0 ∨ pd_ordOK D o w = false ∧ h2 104 0 = 1) → W p l e room_1 s m args below meth c H2 locs2 cells slots Q (F0 m (321 + 3) ls1 ((v.map (bc_cv Z.2.1)).toList ++ [])) := by
    intro V ev eV hth
    subst ev
    refine lv_istore (nL := 7) (x := Int32.ofInt V) hx hb d324 h1' (by decide) rfl (fun ls2 h2' => ?_)
    have h2'' : lv_has ls2 7 ((6, .int (Int32.ofInt V)) :: (5, .int r) :: lc_lv Z b (Int32.ofInt (i : Int))) := h2'
    have hL2 : lc_L Z b i ls2 := lc_has_L (lv_sub h2'' [2, 3, 4, 5, 6] rfl)
    refine lv_aload_n hx hb d326 rfl (lv_at h2'' 5 rfl) ?_
    refine bc_l_virtual (d := 1) (idx := 49) (mj := 79) (pos := 747) (r := 104) (as := []) (rest := []) (P := fun v x => v = some (.inl (h2 104 0)) ∧ x = h2) hx hb C.2.2.1 C.2.2.2.1 C.2.2.2.2.1 C.2.2.2.2.2.1 hW hP2 hS2 h2''.1 d327 (by decide +kernel) (by decide +kernel) rfl (Nat.zero_le _) rfl rfl rfl (by omega) hroomc (by
      rw [← bc_OK_eq]
      exact p7_thrown (d := 0) ⟨rfl, rfl⟩) (fun v3 h3 H3 locs3 hp3 hP3 hS3 => ?_)
    obtain ⟨rfl, rfl⟩ := hp3
    refine lv_iload hx hb d330 (lv_at h2'' 1 rfl) ?_
    have e1 : Int32.ofInt (h3 104 0) = r := by
      rcases hr with ⟨a, z, -⟩ | ⟨a, z⟩
      · rcases hth with ⟨_, y⟩ | ⟨y, _⟩
        · rw [y, z]; rfl
        · rw [a] at y; cases y
      · rcases hth with ⟨y, _⟩ | ⟨_, y⟩
        · rw [a] at y; cases y
        · rw [y, z]; rfl
    refine lv_icmp_eq (off := 5) (tgt := 337) hx hb d332 (by decide) (fun _ => ?_) (fun q => absurd e1 q)
    refine lv_iload hx hb d337 (lv_at h2'' 1 rfl) ?_
    refine lv_if_ne (off := 15) (tgt := 354) hx hb d339 (by decide) (fun _ => fin H3 locs3 ls2 hP3 hS3 hL2) (fun q => ?_)
    have hok : pd_ordOK D o w = true ∧ h 117 0 = (Int32.ofInt (pd_ordV D o w)).toInt := by
      rcases hr with ⟨a, _, z⟩ | ⟨_, z⟩
      · exact ⟨a, z⟩
      · rw [z] at q; exact absurd q (by decide)
    refine lv_aload_n hx hb d342 rfl (lv_at h2'' 6 rfl) ?_
    refine lv_iconst hx hb d343 rfl ?_
    have hge2 : (bc_WS Z h3)[117]? = some (Z.2.1 117, .inl (Z.2.2.2.1, 1, .inr (.inl (fun j => Int64.ofInt (h3 117 j))))) := bc_WS_get Z h3 (k := 117) (by decide)
    refine va_lald hx hb hW.1 hP3 117 1 hge2 rfl (bc_in2 (i := 0) (n := 1) (by omega) (by decide) (by omega)) d344 ?_
    refine lv_iload hx hb d345 (lv_at h2'' 0 rfl) ?_
    refine lv_i2l (v := (Int32.ofInt V).toInt64) hx hb d347 rfl ?_
    refine W.lcmp hx hb d348 ?_
    have e2 : lg_cmp (Int64.ofInt (h3 117 (Int32.ofInt 0).toNatClampNeg)) (Int32.ofInt V).toInt64 = 0 := by
      have hz : (Int32.ofInt 0).toNatClampNeg = 0 := by decide +kernel
      rw [hz, g2 117 (Or.inr (by omega)), hok.2, eV hok.1, ← Int32.toInt_toInt64, Int64.ofInt_toInt]
      unfold lg_cmp
      simp
    rw [e2]
    exact lv_if_eq (off := 5) (tgt := 354) hx hb d349 (by decide) (fun _ => fin H3 locs3 ls2 hP3 hS3 hL2) (fun q => absurd rfl q)
  rcases hv with ⟨a, ev, z⟩ | ⟨a, ev, z⟩
  · exact go _ ev (fun _ => rfl) (Or.inl ⟨a, z⟩)
  · exact go _ ev (fun y => by rw [a] at y; cases y) (Or.inr ⟨a, z⟩)
theorem lc_order (C : lc_X p s m c args b L xs Z A) (hl : l.stackTraces = false) (hT : bx_T A s s.heap) (hi : i + 6 ≤ L) (hI : lc_I h) (hroomc : cells + 1 ≤ 601024 ∧ slots + 6 ≤ 7293034) (kk : ∀ h', lc_I h' → lc_W p l e s m args below meth c Q b Z A 792 i [] h' (cells + 1) (slots + 6)) : lc_W p l e s m args below meth c Q b Z A 289 i [] h cells slots := by
  obtain ⟨T, n, F, D, Hs, hR, hM, hSV⟩ := hI
  refine lc_x C (by decide +kernel) ?_
  refine lc_arg (k := 1) C (by omega) (by decide +kernel) (by decide +kernel) (by decide +kernel) (by decide +kernel) (by decide +kernel) ?_
  refine lc_arg (k := 2) C (by omega) (by decide +kernel) (by decide +kernel) (by decide +kernel) (by decide +kernel) (by decide +kernel) ?_
  intro H locs ls hP hS hL
  have d302 : decode code 302 = .ok (.aload_n 3, 1) := by decide +kernel
  have d303 : decode code 303 = .ok (.invokestatic 43, 3) := by decide +kernel
  have hx := C.1
  have hb := C.2.1
  have hW := C.2.2.2.2.2.2.1
  have hA := C.2.2.2.2.2.1
  refine lv_aload_n hx hb d302 rfl hL.2.2.2.2.2.1 ?_
  generalize eo : (xs (i + 1)).toInt = o
  generalize ew : (xs (i + 2)).toInt = w
  have ho : bc_vr o := by rw [← eo]; exact bc_vr_ti _
  have hw : bc_vr w := by rw [← ew]; exact bc_vr_ti _
  have hM1 := lo_order hl hR hSV ho hw Z H.size
  refine vx_calli (post := fun r (u : bc_AH) => (pd_ordOK D o w = true ∧ r = 0 ∧ u = bc_up h 117 0 (Int32.ofInt (pd_ordV D o w)).toInt) ∨ (pd_ordOK D o w = false ∧ r = 1 ∧ u = h)) (px := fun _ : Unit => False) (B := fun (u : bc_AH) t => va_P Z.1 vwCl (bc_WS Z u) t.heap) (BX := fun _ _ _ => False) (A1 := bc_A Z H.size) (AX := fun _ => False) (free := bc_A Z H.size) (mc := 1) (ms := 6) (A0 := A) (H0 := s.heap) (rest := []) (a := ([.ref (Z.2.1 0), .int (Int32.ofInt o), .int (Int32.ofInt w), .ref (Z.2.1 117)] : List Value).toArray)
    (fun T9 hT9 X9 => ?_) hS (fun q _ hq => bx_free hA hW hS q hq) (bx_free hA hW hS) (fun q _ hq => hq.elim) (fun E ce q9 u t H1 locs1 ht hal hpx => hpx.elim) (fun r u t H1 locs1 ht hal hpost hB hz hk hS1 => ?_)
  · have hrun := vx_runSX (p := p) (e := e) (R := room_1) (s := s) (m := m) (args := args) (below := below) (meth := meth) (c := c) (H := H) (locs := locs) (cells := cells) (slots := slots) (g := F0 m 303 ls [.ref (Z.2.1 117), .int (Int32.ofInt w), .int (Int32.ofInt o), .ref (Z.2.1 0)]) (rest := []) (As := [.ref (Z.2.1 0), .int (Int32.ofInt o), .int (Int32.ofInt w), .ref (Z.2.1 117)]) (Ts := lw_tbl) (own := bc_Rlaw) (nL := 7) (hh := [(0, 10, 13, 13)]) ⟨hx, hb, C.2.2.1, C.2.2.2.1, C.2.2.2.2.1⟩ hM1 (vx_cwSW 4 C.2.2.2.2.1 (bc_GL_in lo_wsS) rfl rfl rfl (by decide +kernel) ⟨Nat.le_of_ble_eq_true rfl, Nat.le_of_ble_eq_true rfl⟩) ⟨bx_blind Z _ _ h, bx_pre hA hW hT hP hS⟩ rfl rfl hL.1 rfl (lv_room (Nat.zero_le _)) d303 hroomc
    rcases hrun T9 hT9 X9 with hq | ⟨q, st₀, t, T', L', E, ce, h0, X', hL', e1, e2, hf, -⟩
    · exact Or.inl hq
    · exact hf.elim
  · rw [ht] at hB
    rcases hpost with ⟨a, z, rfl⟩ | ⟨a, z, rfl⟩
    · exact lo_306 C hi (pd_RC_117 hR) (pd_RM_117 hM) hSV hroomc kk eo.symm ew.symm (Or.inl ⟨a, z, by simp [bc_up]⟩) hB hS1 hL
    · exact lo_306 C hi hR hM hSV hroomc kk eo.symm ew.symm (Or.inr ⟨a, z⟩) hB hS1 hL
end LawO
