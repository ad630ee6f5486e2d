/-! the law's acts (printed by gen_acts.py) -/
theorem pd_SV_mid {T D : Nat → Int} {n F v : Int} {Hs : List (Nat → Int)} (hS : pd_SV T n F D Hs) : pd_SV T n F (pd_aD (pd_midC D v) D (pd_st D 1 v)) (pd_aH (pd_midC D v) D Hs) := by
  refine pd_SV_act hS (fun q => pd_W_st1 hS.2.2.1 ?_)
  unfold pd_midC at q
  rw [Bool.and_eq_true, decide_eq_true_eq] at q
  exact q.1
theorem pd_SV_undo {T D : Nat → Int} {n F : Int} {Hs : List (Nat → Int)} (hS : pd_SV T n F D Hs) : pd_SV T n F (Hs.headD D) Hs.tail := by
  obtain ⟨a, b, c, e, f⟩ := hS
  cases Hs with
  | nil => exact ⟨a, b, c, e, f⟩
  | cons E Gs => exact ⟨a, b, f E List.mem_cons_self, by rw [List.length_cons] at e; show Gs.length ≤ 8; omega, fun G hG => f G (List.mem_cons_of_mem _ hG)⟩
section LawA
variable {p : Program} {l : Launch} {e : Env} {s : State} {m : MethodId} {args : Array Value} {below : List Frame} {meth : Method} {c : Code} {Q : State → Prop} {b L : Nat} {xs : Nat → Int32} {Z : bc_ZT} {A : Nat → Prop} {i cells slots : Nat} {h : bc_AH}
theorem lc_mid (C : lc_X p s m c args b L xs Z A) (hi : i + 6 ≤ L) (hI : lc_I h) (hroomc : cells ≤ 601024 ∧ slots ≤ 7293034) (kk : ∀ h', lc_I h' → lc_W p l e s m args below meth c Q b Z A 792 i [] h' cells slots) : lc_W p l e s m args below meth c Q b Z A 741 i [] h cells slots := by
  obtain ⟨T, n, F, D, Hs, hR, hM, hS⟩ := hI
  refine lc_x C (by decide +kernel) ?_
  refine lc_arg (k := 1) C (by omega) (by decide +kernel) (by decide +kernel) (by decide +kernel) (by decide +kernel) (by decide +kernel) ?_
  refine lc_call (d := 3) (idx := 101) (mj := 72) (pos := 652) (r := 0) (as := [.inl (xs (i + 1)).toInt]) (st' := []) (P := fun r x => r = some (.inl (pd_midV D (xs (i + 1)).toInt)) ∧ pd_RC T n F (pd_aD (pd_midC D (xs (i + 1)).toInt) D (pd_st D 1 (xs (i + 1)).toInt)) (pd_aH (pd_midC D (xs (i + 1)).toInt) D Hs) x ∧ pd_gC h x) C rfl (by decide +kernel) (by decide +kernel) (by decide +kernel) rfl (Nat.le_of_ble_eq_true rfl) rfl rfl rfl (by omega) hroomc (p6_mid (d := 0) hR hS (bc_vr_ti _) (fun h' a g => ⟨rfl, a, g⟩)) (fun r h1 hp => ?_)
  obtain ⟨rfl, hR1, g1⟩ := hp
  refine lc_m C (by decide +kernel) ?_
  refine lc_arg (k := 1) C (by omega) (by decide +kernel) (by decide +kernel) (by decide +kernel) (by decide +kernel) (by decide +kernel) ?_
  refine lc_call (d := 3) (idx := 104) (mj := 132) (pos := 1042) (r := 104) (as := [.inl (xs (i + 1)).toInt]) (st' := [.inl (pd_midV D (xs (i + 1)).toInt)]) (P := fun r x => r = some (.inl (pd_midV D (xs (i + 1)).toInt)) ∧ lc_I x) C rfl (by decide +kernel) (by decide +kernel) (by decide +kernel) rfl (Nat.le_of_ble_eq_true rfl) rfl rfl rfl (by omega) hroomc (p7_mid (d := 0) (pd_RM_gC hM g1) hS (bc_vr_ti _) (fun h' a g => ⟨rfl, T, n, F, _, _, pd_RC_gM hR1 g, a, pd_SV_mid hS⟩)) (fun r h2 hp => ?_)
  obtain ⟨rfl, hI2⟩ := hp
  exact lc_same (off := 31) (t := 792) C (by decide +kernel) (by decide) (kk h2 hI2)
theorem lc_withdraw (C : lc_X p s m c args b L xs Z A) (hi : i + 6 ≤ L) (hI : lc_I h) (hroomc : cells ≤ 601024 ∧ slots ≤ 7293034) (kk : ∀ h', lc_I h' → lc_W p l e s m args below meth c Q b Z A 792 i [] h' cells slots) : lc_W p l e s m args below meth c Q b Z A 667 i [] h cells slots := by
  obtain ⟨T, n, F, D, Hs, hR, hM, hS⟩ := hI
  refine lc_x C (by decide +kernel) ?_
  refine lc_arg (k := 1) C (by omega) (by decide +kernel) (by decide +kernel) (by decide +kernel) (by decide +kernel) (by decide +kernel) ?_
  refine lc_call (d := 3) (idx := 92) (mj := 70) (pos := 640) (r := 0) (as := [.inl (xs (i + 1)).toInt]) (st' := []) (P := fun r x => r = some (.inl (pd_wdV D (xs (i + 1)).toInt)) ∧ pd_RC T n F (pd_aD (pd_opn D (xs (i + 1)).toInt) D (pd_st D (7 + 9 * ((xs (i + 1)).toInt).toNat + 5) 1)) (pd_aH (pd_opn D (xs (i + 1)).toInt) D Hs) x ∧ pd_gC h x) C rfl (by decide +kernel) (by decide +kernel) (by decide +kernel) rfl (Nat.le_of_ble_eq_true rfl) rfl rfl rfl (by omega) hroomc (p6_withdraw (d := 0) hR hS (bc_vr_ti _) (fun h' a g => ⟨rfl, a, g⟩)) (fun r h1 hp => ?_)
  obtain ⟨rfl, hR1, g1⟩ := hp
  refine lc_m C (by decide +kernel) ?_
  refine lc_arg (k := 1) C (by omega) (by decide +kernel) (by decide +kernel) (by decide +kernel) (by decide +kernel) (by decide +kernel) ?_
  refine lc_call (d := 4) (idx := 95) (mj := 129) (pos := 1030) (r := 104) (as := [.inl (xs (i + 1)).toInt]) (st' := [.inl (pd_wdV D (xs (i + 1)).toInt)]) (P := fun r x => r = some (.inl (pd_wdV D (xs (i + 1)).toInt)) ∧ lc_I x) C rfl (by decide +kernel) (by decide +kernel) (by decide +kernel) rfl (Nat.le_of_ble_eq_true rfl) rfl rfl rfl (by omega) hroomc (p7_withdraw (d := 0) (pd_RM_gC hM g1) hS (bc_vr_ti _) (fun h' a g => ⟨rfl, T, n, F, _, _, pd_RC_gM hR1 g, a, pd_SV_act hS (fun _ => pd_W_st5 hS.2.2.1)⟩)) (fun r h2 hp => ?_)
  obtain ⟨rfl, hI2⟩ := hp
  exact lc_same (off := 105) (t := 792) C (by decide +kernel) (by decide) (kk h2 hI2)
theorem lc_come (C : lc_X p s m c args b L xs Z A) (hi : i + 6 ≤ L) (hI : lc_I h) (hroomc : cells ≤ 601024 ∧ slots ≤ 7293034) (kk : ∀ h', lc_I h' → lc_W p l e s m args below meth c Q b Z A 792 i [] h' cells slots) : lc_W p l e s m args below meth c Q b Z A 594 i [] h cells slots := by
  obtain ⟨T, n, F, D, Hs, hR, hM, hS⟩ := hI
  refine lc_x C (by decide +kernel) ?_
  refine lc_arg (k := 1) C (by omega) (by decide +kernel) (by decide +kernel) (by decide +kernel) (by decide +kernel) (by decide +kernel) ?_
  refine lc_arg (k := 2) C (by omega) (by decide +kernel) (by decide +kernel) (by decide +kernel) (by decide +kernel) (by decide +kernel) ?_
  refine lc_arg (k := 3) C (by omega) (by decide +kernel) (by decide +kernel) (by decide +kernel) (by decide +kernel) (by decide +kernel) ?_
  refine lc_arg (k := 4) C (by omega) (by decide +kernel) (by decide +kernel) (by decide +kernel) (by decide +kernel) (by decide +kernel) ?_
  refine lc_arg (k := 5) C (by omega) (by decide +kernel) (by decide +kernel) (by decide +kernel) (by decide +kernel) (by decide +kernel) ?_
  refine lc_call (d := 4) (idx := 88) (mj := 69) (pos := 623) (r := 0) (as := [.inl (xs (i + 1)).toInt, .inl (xs (i + 2)).toInt, .inl (xs (i + 3)).toInt, .inl (xs (i + 4)).toInt, .inl (xs (i + 5)).toInt]) (st' := []) (P := fun r x => r = some (.inl (pd_cmV D (xs (i + 1)).toInt (xs (i + 2)).toInt (xs (i + 3)).toInt (xs (i + 4)).toInt (xs (i + 5)).toInt)) ∧ pd_RC T n F (pd_aD (pd_cmC D (xs (i + 1)).toInt (xs (i + 2)).toInt (xs (i + 3)).toInt (xs (i + 4)).toInt (xs (i + 5)).toInt) D (pd_add D (xs (i + 1)).toInt (xs (i + 2)).toInt (xs (i + 3)).toInt (xs (i + 4)).toInt (xs (i + 5)).toInt)) (pd_aH (pd_cmC D (xs (i + 1)).toInt (xs (i + 2)).toInt (xs (i + 3)).toInt (xs (i + 4)).toInt (xs (i + 5)).toInt) D Hs) x ∧ pd_gC h x) C rfl (by decide +kernel) (by decide +kernel) (by decide +kernel) rfl (Nat.le_of_ble_eq_true rfl) rfl rfl rfl (by omega) hroomc (p6_come (d := 0) hR hS (bc_vr_ti _) (bc_vr_ti _) (bc_vr_ti _) (bc_vr_ti _) (bc_vr_ti _) (fun h' a g => ⟨rfl, a, g⟩)) (fun r h1 hp => ?_)
  obtain ⟨rfl, hR1, g1⟩ := hp
  refine lc_m C (by decide +kernel) ?_
  refine lc_arg (k := 1) C (by omega) (by decide +kernel) (by decide +kernel) (by decide +kernel) (by decide +kernel) (by decide +kernel) ?_
  refine lc_arg (k := 2) C (by omega) (by decide +kernel) (by decide +kernel) (by decide +kernel) (by decide +kernel) (by decide +kernel) ?_
  refine lc_arg (k := 3) C (by omega) (by decide +kernel) (by decide +kernel) (by decide +kernel) (by decide +kernel) (by decide +kernel) ?_
  refine lc_arg (k := 4) C (by omega) (by decide +kernel) (by decide +kernel) (by decide +kernel) (by decide +kernel) (by decide +kernel) ?_
  refine lc_arg (k := 5) C (by omega) (by decide +kernel) (by decide +kernel) (by decide +kernel) (by decide +kernel) (by decide +kernel) ?_
  refine lc_call (d := 5) (idx := 91) (mj := 128) (pos := 1022) (r := 104) (as := [.inl (xs (i + 1)).toInt, .inl (xs (i + 2)).toInt, .inl (xs (i + 3)).toInt, .inl (xs (i + 4)).toInt, .inl (xs (i + 5)).toInt]) (st' := [.inl (pd_cmV D (xs (i + 1)).toInt (xs (i + 2)).toInt (xs (i + 3)).toInt (xs (i + 4)).toInt (xs (i + 5)).toInt)]) (P := fun r x => r = some (.inl (pd_cmV D (xs (i + 1)).toInt (xs (i + 2)).toInt (xs (i + 3)).toInt (xs (i + 4)).toInt (xs (i + 5)).toInt)) ∧ lc_I x) C rfl (by decide +kernel) (by decide +kernel) (by decide +kernel) rfl (Nat.le_of_ble_eq_true rfl) rfl rfl rfl (by omega) hroomc (p7_come (d := 0) (pd_RM_gC hM g1) hS (bc_vr_ti _) (bc_vr_ti _) (bc_vr_ti _) (bc_vr_ti _) (bc_vr_ti _) (fun h' a g => ⟨rfl, T, n, F, _, _, pd_RC_gM hR1 g, a, pd_SV_act hS (fun q => pd_W_add hS.2.2.1 q)⟩)) (fun r h2 hp => ?_)
  obtain ⟨rfl, hI2⟩ := hp
  exact lc_same (off := 130) (t := 792) C (by decide +kernel) (by decide) (kk h2 hI2)
theorem lc_run (C : lc_X p s m c args b L xs Z A) (hi : i + 6 ≤ L) (hI : lc_I h) (hroomc : cells ≤ 601024 ∧ slots ≤ 7293034) (kk : ∀ h', lc_I h' → lc_W p l e s m args below meth c Q b Z A 792 i [] h' cells slots) : lc_W p l e s m args below meth c Q b Z A 766 i [] h cells slots := by
  obtain ⟨T, n, F, D, Hs, hR, hM, hS⟩ := hI
  refine lc_x C (by decide +kernel) ?_
  refine lc_call (d := 17) (idx := 105) (mj := 73) (pos := 656) (r := 0) (as := []) (st' := []) (P := fun r x => r = some (.inl (pd_cv D)) ∧ pd_RC T n F (pd_aD (pd_runC D) D (pd_run D)) (pd_aH (pd_runC D) D Hs) x ∧ pd_gC h x) C rfl (by decide +kernel) (by decide +kernel) (by decide +kernel) rfl (Nat.le_of_ble_eq_true rfl) rfl rfl rfl (by omega) hroomc (p6_run (d := 0) hR hS  (fun h' a g => ⟨rfl, a, g⟩)) (fun r h1 hp => ?_)
  obtain ⟨rfl, hR1, g1⟩ := hp
  refine lc_m C (by decide +kernel) ?_
  refine lc_call (d := 8) (idx := 108) (mj := 134) (pos := 1046) (r := 104) (as := []) (st' := [.inl (pd_cv D)]) (P := fun r x => r = some (.inl (pd_cv D)) ∧ lc_I x) C rfl (by decide +kernel) (by decide +kernel) (by decide +kernel) rfl (Nat.le_of_ble_eq_true rfl) rfl rfl rfl (by omega) hroomc (p7_run (d := 0) (pd_RM_gC hM g1) hS  (fun h' a g => ⟨rfl, T, n, F, _, _, pd_RC_gM hR1 g, a, pd_SV_act hS (fun _ => pd_W_run hS.2.2.1)⟩)) (fun r h2 hp => ?_)
  obtain ⟨rfl, hI2⟩ := hp
  exact lc_same (off := 18) (t := 792) C (by decide +kernel) (by decide) (kk h2 hI2)
theorem lc_undo (C : lc_X p s m c args b L xs Z A) (hi : i + 6 ≤ L) (hI : lc_I h) (hroomc : cells ≤ 601024 ∧ slots ≤ 7293034) (kk : ∀ h', lc_I h' → lc_W p l e s m args below meth c Q b Z A 792 i [] h' cells slots) : lc_W p l e s m args below meth c Q b Z A 779 i [] h cells slots := by
  obtain ⟨T, n, F, D, Hs, hR, hM, hS⟩ := hI
  refine lc_x C (by decide +kernel) ?_
  refine lc_call (d := 3) (idx := 109) (mj := 74) (pos := 670) (r := 0) (as := []) (st' := []) (P := fun r x => r = some (.inl (pd_undoV Hs)) ∧ pd_RC T n F (Hs.headD D) (Hs.tail) x ∧ pd_gC h x) C rfl (by decide +kernel) (by decide +kernel) (by decide +kernel) rfl (Nat.le_of_ble_eq_true rfl) rfl rfl rfl (by omega) hroomc (p6_undo (d := 0) hR hS  (fun h' a g => ⟨rfl, a, g⟩)) (fun r h1 hp => ?_)
  obtain ⟨rfl, hR1, g1⟩ := hp
  refine lc_m C (by decide +kernel) ?_
  refine lc_call (d := 1) (idx := 112) (mj := 135) (pos := 1054) (r := 104) (as := []) (st' := [.inl (pd_undoV Hs)]) (P := fun r x => r = some (.inl (pd_undoV Hs)) ∧ lc_I x) C rfl (by decide +kernel) (by decide +kernel) (by decide +kernel) rfl (Nat.le_of_ble_eq_true rfl) rfl rfl rfl (by omega) hroomc (p7_undo (d := 0) (pd_RM_gC hM g1) hS  (fun h' a g => ⟨rfl, T, n, F, _, _, pd_RC_gM hR1 g, a, pd_SV_undo hS⟩)) (fun r h2 hp => ?_)
  obtain ⟨rfl, hI2⟩ := hp
  exact lc_same (off := 5) (t := 792) C (by decide +kernel) (by decide) (kk h2 hI2)
end LawA
