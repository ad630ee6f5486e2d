/-! the law's queries (printed by gen_cases.py) -/
section LawQ
variable {p : Program} {l : Launch} {e : Env} {s : State} {m : MethodId} {args : Array Value} {below : List Frame} {meth : Method} {c : Code} {Q : State → Prop} {b L : Nat} {xs : Nat → Int32} {Z : bc_ZT} {A : Nat → Prop} {i cells slots : Nat} {h : bc_AH}
theorem lc_chosen (C : lc_X p s m c args b L xs Z A) (hi : i + 6 ≤ L) (hI : lc_I h) (hroomc : cells ≤ 601024 ∧ slots ≤ 7293034) (kk : ∀ h', lc_I h' → lc_W p l e s m args below meth c Q b Z A 792 i [] h' cells slots) : lc_W p l e s m args below meth c Q b Z A 382 i [] h cells slots := by
  obtain ⟨T, n, F, D, Hs, hR, hM, hS⟩ := hI
  refine lc_x C (by decide +kernel) ?_
  refine lc_arg (k := 1) C (by omega) (by decide +kernel) (by decide +kernel) (by decide +kernel) (by decide +kernel) (by decide +kernel) ?_
  refine lc_arg (k := 2) C (by omega) (by decide +kernel) (by decide +kernel) (by decide +kernel) (by decide +kernel) (by decide +kernel) ?_
  refine lc_call (d := 17) (idx := 56) (mj := 61) (pos := 496) (r := 0) (as := [.inl (xs (i + 1)).toInt, .inl (xs (i + 2)).toInt]) (st' := []) (P := fun r x => r = some (.inl (pd_chosen D (xs (i + 1)).toInt (xs (i + 2)).toInt)) ∧ pd_RC T n F D Hs x ∧ pd_gC h x) C rfl (by decide +kernel) (by decide +kernel) (by decide +kernel) rfl (Nat.le_of_ble_eq_true rfl) rfl rfl rfl (by omega) hroomc (p6_chosen (d := 0) hR hS (bc_vr_ti _) (bc_vr_ti _) (fun h' a g => ⟨rfl, a, g⟩)) (fun r h1 hp => ?_)
  obtain ⟨rfl, hR1, g1⟩ := hp
  refine lc_m C (by decide +kernel) ?_
  refine lc_arg (k := 1) C (by omega) (by decide +kernel) (by decide +kernel) (by decide +kernel) (by decide +kernel) (by decide +kernel) ?_
  refine lc_arg (k := 2) C (by omega) (by decide +kernel) (by decide +kernel) (by decide +kernel) (by decide +kernel) (by decide +kernel) ?_
  refine lc_call (d := 6) (idx := 59) (mj := 116) (pos := 956) (r := 104) (as := [.inl (xs (i + 1)).toInt, .inl (xs (i + 2)).toInt]) (st' := [.inl (pd_chosen D (xs (i + 1)).toInt (xs (i + 2)).toInt)]) (P := fun r x => r = some (.inl (pd_chosen D (xs (i + 1)).toInt (xs (i + 2)).toInt)) ∧ lc_I x) C rfl (by decide +kernel) (by decide +kernel) (by decide +kernel) rfl (Nat.le_of_ble_eq_true rfl) rfl rfl rfl (by omega) hroomc (p7_chosen (d := 0) (pd_RM_gC hM g1) hS (bc_vr_ti _) (bc_vr_ti _) (fun h' a g => ⟨rfl, T, n, F, D, Hs, pd_RC_gM hR1 g, a, hS⟩)) (fun r h2 hp => ?_)
  obtain ⟨rfl, hI2⟩ := hp
  exact lc_same (off := 378) (t := 792) C (by decide +kernel) (by decide) (kk h2 hI2)
theorem lc_fill (C : lc_X p s m c args b L xs Z A) (hi : i + 6 ≤ L) (hI : lc_I h) (hroomc : cells ≤ 601024 ∧ slots ≤ 7293034) (kk : ∀ h', lc_I h' → lc_W p l e s m args below meth c Q b Z A 792 i [] h' cells slots) : lc_W p l e s m args below meth c Q b Z A 419 i [] h cells slots := by
  obtain ⟨T, n, F, D, Hs, hR, hM, hS⟩ := hI
  refine lc_x C (by decide +kernel) ?_
  refine lc_arg (k := 1) C (by omega) (by decide +kernel) (by decide +kernel) (by decide +kernel) (by decide +kernel) (by decide +kernel) ?_
  refine lc_call (d := 17) (idx := 60) (mj := 62) (pos := 563) (r := 0) (as := [.inl (xs (i + 1)).toInt]) (st' := []) (P := fun r x => r = some (.inl (pd_fillA D (xs (i + 1)).toInt)) ∧ pd_RC T n F D Hs x ∧ pd_gC h x) C rfl (by decide +kernel) (by decide +kernel) (by decide +kernel) rfl (Nat.le_of_ble_eq_true rfl) rfl rfl rfl (by omega) hroomc (p6_fill (d := 0) hR hS (bc_vr_ti _) (fun h' a g => ⟨rfl, a, g⟩)) (fun r h1 hp => ?_)
  obtain ⟨rfl, hR1, g1⟩ := hp
  refine lc_m C (by decide +kernel) ?_
  refine lc_arg (k := 1) C (by omega) (by decide +kernel) (by decide +kernel) (by decide +kernel) (by decide +kernel) (by decide +kernel) ?_
  refine lc_call (d := 8) (idx := 63) (mj := 118) (pos := 978) (r := 104) (as := [.inl (xs (i + 1)).toInt]) (st' := [.inl (pd_fillA D (xs (i + 1)).toInt)]) (P := fun r x => r = some (.inl (pd_fillA D (xs (i + 1)).toInt)) ∧ lc_I x) C rfl (by decide +kernel) (by decide +kernel) (by decide +kernel) rfl (Nat.le_of_ble_eq_true rfl) rfl rfl rfl (by omega) hroomc (p7_fill (d := 0) (pd_RM_gC hM g1) hS (bc_vr_ti _) (fun h' a g => ⟨rfl, T, n, F, D, Hs, pd_RC_gM hR1 g, a, hS⟩)) (fun r h2 hp => ?_)
  obtain ⟨rfl, hI2⟩ := hp
  exact lc_same (off := 353) (t := 792) C (by decide +kernel) (by decide) (kk h2 hI2)
theorem lc_why (C : lc_X p s m c args b L xs Z A) (hi : i + 6 ≤ L) (hI : lc_I h) (hroomc : cells ≤ 601024 ∧ slots ≤ 7293034) (kk : ∀ h', lc_I h' → lc_W p l e s m args below meth c Q b Z A 792 i [] h' cells slots) : lc_W p l e s m args below meth c Q b Z A 444 i [] h cells slots := by
  obtain ⟨T, n, F, D, Hs, hR, hM, hS⟩ := hI
  refine lc_x C (by decide +kernel) ?_
  refine lc_arg (k := 1) C (by omega) (by decide +kernel) (by decide +kernel) (by decide +kernel) (by decide +kernel) (by decide +kernel) ?_
  refine lc_call (d := 17) (idx := 64) (mj := 63) (pos := 581) (r := 0) (as := [.inl (xs (i + 1)).toInt]) (st' := []) (P := fun r x => r = some (.inl (pd_why D (xs (i + 1)).toInt)) ∧ pd_RC T n F D Hs x ∧ pd_gC h x) C rfl (by decide +kernel) (by decide +kernel) (by decide +kernel) rfl (Nat.le_of_ble_eq_true rfl) rfl rfl rfl (by omega) hroomc (p6_why (d := 0) hR hS (bc_vr_ti _) (fun h' a g => ⟨rfl, a, g⟩)) (fun r h1 hp => ?_)
  obtain ⟨rfl, hR1, g1⟩ := hp
  refine lc_m C (by decide +kernel) ?_
  refine lc_arg (k := 1) C (by omega) (by decide +kernel) (by decide +kernel) (by decide +kernel) (by decide +kernel) (by decide +kernel) ?_
  refine lc_call (d := 7) (idx := 67) (mj := 121) (pos := 990) (r := 104) (as := [.inl (xs (i + 1)).toInt]) (st' := [.inl (pd_why D (xs (i + 1)).toInt)]) (P := fun r x => r = some (.inl (pd_why D (xs (i + 1)).toInt)) ∧ lc_I x) C rfl (by decide +kernel) (by decide +kernel) (by decide +kernel) rfl (Nat.le_of_ble_eq_true rfl) rfl rfl rfl (by omega) hroomc (p7_why (d := 0) (pd_RM_gC hM g1) hS (bc_vr_ti _) (fun h' a g => ⟨rfl, T, n, F, D, Hs, pd_RC_gM hR1 g, a, hS⟩)) (fun r h2 hp => ?_)
  obtain ⟨rfl, hI2⟩ := hp
  exact lc_same (off := 328) (t := 792) C (by decide +kernel) (by decide) (kk h2 hI2)
theorem lc_best (C : lc_X p s m c args b L xs Z A) (hi : i + 6 ≤ L) (hI : lc_I h) (hroomc : cells ≤ 601024 ∧ slots ≤ 7293034) (kk : ∀ h', lc_I h' → lc_W p l e s m args below meth c Q b Z A 792 i [] h' cells slots) : lc_W p l e s m args below meth c Q b Z A 494 i [] h cells slots := by
  obtain ⟨T, n, F, D, Hs, hR, hM, hS⟩ := hI
  refine lc_x C (by decide +kernel) ?_
  refine lc_call (d := 18) (idx := 72) (mj := 65) (pos := 599) (r := 0) (as := []) (st' := []) (P := fun r x => r = some (.inl (pd_best D)) ∧ pd_RC T n F D Hs x ∧ pd_gC h x) C rfl (by decide +kernel) (by decide +kernel) (by decide +kernel) rfl (Nat.le_of_ble_eq_true rfl) rfl rfl rfl (by omega) hroomc (p6_best (d := 0) hR hS  (fun h' a g => ⟨rfl, a, g⟩)) (fun r h1 hp => ?_)
  obtain ⟨rfl, hR1, g1⟩ := hp
  refine lc_m C (by decide +kernel) ?_
  refine lc_call (d := 6) (idx := 75) (mj := 123) (pos := 1006) (r := 104) (as := []) (st' := [.inl (pd_best D)]) (P := fun r x => r = some (.inl (pd_best D)) ∧ lc_I x) C rfl (by decide +kernel) (by decide +kernel) (by decide +kernel) rfl (Nat.le_of_ble_eq_true rfl) rfl rfl rfl (by omega) hroomc (p7_best (d := 0) (pd_RM_gC hM g1) hS  (fun h' a g => ⟨rfl, T, n, F, D, Hs, pd_RC_gM hR1 g, a, hS⟩)) (fun r h2 hp => ?_)
  obtain ⟨rfl, hI2⟩ := hp
  exact lc_same (off := 290) (t := 792) C (by decide +kernel) (by decide) (kk h2 hI2)
theorem lc_were (C : lc_X p s m c args b L xs Z A) (hi : i + 6 ≤ L) (hI : lc_I h) (hroomc : cells ≤ 601024 ∧ slots ≤ 7293034) (kk : ∀ h', lc_I h' → lc_W p l e s m args below meth c Q b Z A 792 i [] h' cells slots) : lc_W p l e s m args below meth c Q b Z A 507 i [] h cells slots := by
  obtain ⟨T, n, F, D, Hs, hR, hM, hS⟩ := hI
  refine lc_x C (by decide +kernel) ?_
  refine lc_arg (k := 1) C (by omega) (by decide +kernel) (by decide +kernel) (by decide +kernel) (by decide +kernel) (by decide +kernel) ?_
  refine lc_arg (k := 2) C (by omega) (by decide +kernel) (by decide +kernel) (by decide +kernel) (by decide +kernel) (by decide +kernel) ?_
  refine lc_call (d := 18) (idx := 76) (mj := 66) (pos := 607) (r := 0) (as := [.inl (xs (i + 1)).toInt, .inl (xs (i + 2)).toInt]) (st' := []) (P := fun r x => r = some (.inl (pd_were D (xs (i + 1)).toInt (xs (i + 2)).toInt)) ∧ pd_RC T n F D Hs x ∧ pd_gC h x) C rfl (by decide +kernel) (by decide +kernel) (by decide +kernel) rfl (Nat.le_of_ble_eq_true rfl) rfl rfl rfl (by omega) hroomc (p6_were (d := 0) hR hS (bc_vr_ti _) (bc_vr_ti _) (fun h' a g => ⟨rfl, a, g⟩)) (fun r h1 hp => ?_)
  obtain ⟨rfl, hR1, g1⟩ := hp
  refine lc_m C (by decide +kernel) ?_
  refine lc_arg (k := 1) C (by omega) (by decide +kernel) (by decide +kernel) (by decide +kernel) (by decide +kernel) (by decide +kernel) ?_
  refine lc_arg (k := 2) C (by omega) (by decide +kernel) (by decide +kernel) (by decide +kernel) (by decide +kernel) (by decide +kernel) ?_
  refine lc_call (d := 6) (idx := 79) (mj := 124) (pos := 1010) (r := 104) (as := [.inl (xs (i + 1)).toInt, .inl (xs (i + 2)).toInt]) (st' := [.inl (pd_were D (xs (i + 1)).toInt (xs (i + 2)).toInt)]) (P := fun r x => r = some (.inl (pd_were D (xs (i + 1)).toInt (xs (i + 2)).toInt)) ∧ lc_I x) C rfl (by decide +kernel) (by decide +kernel) (by decide +kernel) rfl (Nat.le_of_ble_eq_true rfl) rfl rfl rfl (by omega) hroomc (p7_were (d := 0) (pd_RM_gC hM g1) hS (bc_vr_ti _) (bc_vr_ti _) (fun h' a g => ⟨rfl, T, n, F, D, Hs, pd_RC_gM hR1 g, a, hS⟩)) (fun r h2 hp => ?_)
  obtain ⟨rfl, hI2⟩ := hp
  exact lc_same (off := 253) (t := 792) C (by decide +kernel) (by decide) (kk h2 hI2)
theorem lc_worth (C : lc_X p s m c args b L xs Z A) (hi : i + 6 ≤ L) (hI : lc_I h) (hroomc : cells ≤ 601024 ∧ slots ≤ 7293034) (kk : ∀ h', lc_I h' → lc_W p l e s m args below meth c Q b Z A 792 i [] h' cells slots) : lc_W p l e s m args below meth c Q b Z A 544 i [] h cells slots := by
  obtain ⟨T, n, F, D, Hs, hR, hM, hS⟩ := hI
  refine lc_x C (by decide +kernel) ?_
  refine lc_arg (k := 1) C (by omega) (by decide +kernel) (by decide +kernel) (by decide +kernel) (by decide +kernel) (by decide +kernel) ?_
  refine lc_call (d := 17) (idx := 80) (mj := 67) (pos := 615) (r := 0) (as := [.inl (xs (i + 1)).toInt]) (st' := []) (P := fun r x => r = some (.inl (pd_worth D (xs (i + 1)).toInt)) ∧ pd_RC T n F D Hs x ∧ pd_gC h x) C rfl (by decide +kernel) (by decide +kernel) (by decide +kernel) rfl (Nat.le_of_ble_eq_true rfl) rfl rfl rfl (by omega) hroomc (p6_worth (d := 0) hR hS (bc_vr_ti _) (fun h' a g => ⟨rfl, a, g⟩)) (fun r h1 hp => ?_)
  obtain ⟨rfl, hR1, g1⟩ := hp
  refine lc_m C (by decide +kernel) ?_
  refine lc_arg (k := 1) C (by omega) (by decide +kernel) (by decide +kernel) (by decide +kernel) (by decide +kernel) (by decide +kernel) ?_
  refine lc_call (d := 7) (idx := 83) (mj := 125) (pos := 1014) (r := 104) (as := [.inl (xs (i + 1)).toInt]) (st' := [.inl (pd_worth D (xs (i + 1)).toInt)]) (P := fun r x => r = some (.inl (pd_worth D (xs (i + 1)).toInt)) ∧ lc_I x) C rfl (by decide +kernel) (by decide +kernel) (by decide +kernel) rfl (Nat.le_of_ble_eq_true rfl) rfl rfl rfl (by omega) hroomc (p7_worth (d := 0) (pd_RM_gC hM g1) hS (bc_vr_ti _) (fun h' a g => ⟨rfl, T, n, F, D, Hs, pd_RC_gM hR1 g, a, hS⟩)) (fun r h2 hp => ?_)
  obtain ⟨rfl, hI2⟩ := hp
  exact lc_same (off := 228) (t := 792) C (by decide +kernel) (by decide) (kk h2 hI2)
theorem lc_reach (C : lc_X p s m c args b L xs Z A) (hi : i + 6 ≤ L) (hI : lc_I h) (hroomc : cells ≤ 601024 ∧ slots ≤ 7293034) (kk : ∀ h', lc_I h' → lc_W p l e s m args below meth c Q b Z A 792 i [] h' cells slots) : lc_W p l e s m args below meth c Q b Z A 569 i [] h cells slots := by
  obtain ⟨T, n, F, D, Hs, hR, hM, hS⟩ := hI
  refine lc_x C (by decide +kernel) ?_
  refine lc_arg (k := 1) C (by omega) (by decide +kernel) (by decide +kernel) (by decide +kernel) (by decide +kernel) (by decide +kernel) ?_
  refine lc_call (d := 19) (idx := 84) (mj := 68) (pos := 619) (r := 0) (as := [.inl (xs (i + 1)).toInt]) (st' := []) (P := fun r x => r = some (.inl (pd_reach D (xs (i + 1)).toInt)) ∧ pd_RC T n F D Hs x ∧ pd_gC h x) C rfl (by decide +kernel) (by decide +kernel) (by decide +kernel) rfl (Nat.le_of_ble_eq_true rfl) rfl rfl rfl (by omega) hroomc (p6_reach (d := 0) hR hS (bc_vr_ti _) (fun h' a g => ⟨rfl, a, g⟩)) (fun r h1 hp => ?_)
  obtain ⟨rfl, hR1, g1⟩ := hp
  refine lc_m C (by decide +kernel) ?_
  refine lc_arg (k := 1) C (by omega) (by decide +kernel) (by decide +kernel) (by decide +kernel) (by decide +kernel) (by decide +kernel) ?_
  refine lc_call (d := 6) (idx := 87) (mj := 126) (pos := 1018) (r := 104) (as := [.inl (xs (i + 1)).toInt]) (st' := [.inl (pd_reach D (xs (i + 1)).toInt)]) (P := fun r x => r = some (.inl (pd_reach D (xs (i + 1)).toInt)) ∧ lc_I x) C rfl (by decide +kernel) (by decide +kernel) (by decide +kernel) rfl (Nat.le_of_ble_eq_true rfl) rfl rfl rfl (by omega) hroomc (p7_reach (d := 0) (pd_RM_gC hM g1) hS (bc_vr_ti _) (fun h' a g => ⟨rfl, T, n, F, D, Hs, pd_RC_gM hR1 g, a, hS⟩)) (fun r h2 hp => ?_)
  obtain ⟨rfl, hI2⟩ := hp
  exact lc_same (off := 203) (t := 792) C (by decide +kernel) (by decide) (kk h2 hI2)
end LawQ
