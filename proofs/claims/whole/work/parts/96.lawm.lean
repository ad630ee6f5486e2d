/-! more of the law's cases (printed by gen_more.py) -/
theorem pd_SV_amend {T D : Nat → Int} {n F o w v : Int} {Hs : List (Nat → Int)} (hS : pd_SV T n F D Hs) : pd_SV T n F (pd_aD (pd_amC D o w v) D (pd_st D (pd_amI o w) v)) (pd_aH (pd_amC D o w v) D Hs) := by
  refine pd_SV_act hS (fun q => ?_)
  unfold pd_amC pd_amOK at q
  rw [Bool.and_eq_true, Bool.and_eq_true, Bool.or_eq_true, Bool.and_eq_true, Bool.and_eq_true, decide_eq_true_eq, decide_eq_true_eq, decide_eq_true_eq, decide_eq_true_eq] at q
  unfold pd_amI
  rcases q.1.2 with z | z
  · rw [if_pos z.1]; exact pd_W_st2 hS.2.2.1 z.2
  · rw [if_neg (by omega)]; exact pd_W_st3 hS.2.2.1 z.2
section LawM
variable {p : Program} {l : Launch} {e : Env} {s : State} {m : MethodId} {args : Array Value} {below : List Frame} {meth : Method} {c : Code} {Q : State → Prop} {b L : Nat} {xs : Nat → Int32} {Z : bc_ZT} {A : Nat → Prop} {i cells slots : Nat} {h : bc_AH}
theorem lc_now (C : lc_X p s m c args b L xs Z A) (hi : i + 6 ≤ L) (hI : lc_I h) (hroomc : cells ≤ 601024 ∧ slots ≤ 7293034) (kk : ∀ h', lc_I h' → lc_W p l e s m args below meth c Q b Z A 792 i [] h' cells slots) : lc_W p l e s m args below meth c Q b Z A 264 i [] h cells slots := by
  obtain ⟨T, n, F, D, Hs, hR, hM, hS⟩ := hI
  refine lc_x C (by decide +kernel) ?_
  refine lc_arg (k := 1) C (by omega) (by decide +kernel) (by decide +kernel) (by decide +kernel) (by decide +kernel) (by decide +kernel) ?_
  refine lc_call (d := 4) (idx := 38) (mj := 58) (pos := 467) (r := 0) (as := [.inl (xs (i + 1)).toInt]) (st' := []) (P := fun r x => r = some (.inl (pd_now n D Hs.length (xs (i + 1)).toInt)) ∧ pd_RC T n F (D) (Hs) x ∧ pd_gC h x) C rfl (by decide +kernel) (by decide +kernel) (by decide +kernel) rfl (Nat.le_of_ble_eq_true rfl) rfl rfl rfl (by omega) hroomc (p6_now (d := 0) hR hS (bc_vr_ti _) ⟨rfl, hR, fun _ _ => rfl⟩) (fun r h1 hp => ?_)
  obtain ⟨rfl, hR1, g1⟩ := hp
  refine lc_m C (by decide +kernel) ?_
  refine lc_arg (k := 1) C (by omega) (by decide +kernel) (by decide +kernel) (by decide +kernel) (by decide +kernel) (by decide +kernel) ?_
  refine lc_call (d := 5) (idx := 42) (mj := 106) (pos := 912) (r := 104) (as := [.inl (xs (i + 1)).toInt]) (st' := [.inl (pd_now n D Hs.length (xs (i + 1)).toInt)]) (P := fun r x => r = some (.inl (pd_now n D Hs.length (xs (i + 1)).toInt)) ∧ lc_I x) C rfl (by decide +kernel) (by decide +kernel) (by decide +kernel) rfl (Nat.le_of_ble_eq_true rfl) rfl rfl rfl (by omega) hroomc (p7_now (d := 0) (pd_RM_gC hM g1) hS (bc_vr_ti _) (fun h' a g => ⟨rfl, T, n, F, _, _, pd_RC_gM hR1 (fun c hc => g c (by omega)), a, hS⟩)) (fun r h2 hp => ?_)
  obtain ⟨rfl, hI2⟩ := hp
  exact lc_same (off := 508) (t := 792) C (by decide +kernel) (by decide) (kk h2 hI2)
theorem lc_rank (C : lc_X p s m c args b L xs Z A) (hi : i + 6 ≤ L) (hI : lc_I h) (hroomc : cells ≤ 601024 ∧ slots ≤ 7293034) (kk : ∀ h', lc_I h' → lc_W p l e s m args below meth c Q b Z A 792 i [] h' cells slots) : lc_W p l e s m args below meth c Q b Z A 357 i [] h cells slots := by
  obtain ⟨T, n, F, D, Hs, hR, hM, hS⟩ := hI
  refine lc_x C (by decide +kernel) ?_
  refine lc_arg (k := 1) C (by omega) (by decide +kernel) (by decide +kernel) (by decide +kernel) (by decide +kernel) (by decide +kernel) ?_
  refine lc_call (d := 5) (idx := 52) (mj := 60) (pos := 483) (r := 0) (as := [.inl (xs (i + 1)).toInt]) (st' := []) (P := fun r x => r = some (.inl (pd_rank D (xs (i + 1)).toInt)) ∧ pd_RC T n F (D) (Hs) x ∧ pd_gC h x) C rfl (by decide +kernel) (by decide +kernel) (by decide +kernel) rfl (Nat.le_of_ble_eq_true rfl) rfl rfl rfl (by omega) hroomc (p6_rank (d := 0) hR hS (bc_vr_ti _) ⟨rfl, hR, fun _ _ => rfl⟩) (fun r h1 hp => ?_)
  obtain ⟨rfl, hR1, g1⟩ := hp
  refine lc_m C (by decide +kernel) ?_
  refine lc_arg (k := 1) C (by omega) (by decide +kernel) (by decide +kernel) (by decide +kernel) (by decide +kernel) (by decide +kernel) ?_
  refine lc_call (d := 5) (idx := 55) (mj := 110) (pos := 944) (r := 104) (as := [.inl (xs (i + 1)).toInt]) (st' := [.inl (pd_rank D (xs (i + 1)).toInt)]) (P := fun r x => r = some (.inl (pd_rank D (xs (i + 1)).toInt)) ∧ lc_I x) C rfl (by decide +kernel) (by decide +kernel) (by decide +kernel) rfl (Nat.le_of_ble_eq_true rfl) rfl rfl rfl (by omega) hroomc (p7_rank (d := 0) (pd_RM_gC hM g1) hS (bc_vr_ti _) (fun h' a g => ⟨rfl, T, n, F, _, _, pd_RC_gM hR1 g, a, hS⟩)) (fun r h2 hp => ?_)
  obtain ⟨rfl, hI2⟩ := hp
  exact lc_same (off := 415) (t := 792) C (by decide +kernel) (by decide) (kk h2 hI2)
theorem lc_volume (C : lc_X p s m c args b L xs Z A) (hi : i + 6 ≤ L) (hI : lc_I h) (hroomc : cells ≤ 601024 ∧ slots ≤ 7293034) (kk : ∀ h', lc_I h' → lc_W p l e s m args below meth c Q b Z A 792 i [] h' cells slots) : lc_W p l e s m args below meth c Q b Z A 469 i [] h cells slots := by
  obtain ⟨T, n, F, D, Hs, hR, hM, hS⟩ := hI
  refine lc_x C (by decide +kernel) ?_
  refine lc_arg (k := 1) C (by omega) (by decide +kernel) (by decide +kernel) (by decide +kernel) (by decide +kernel) (by decide +kernel) ?_
  refine lc_call (d := 6) (idx := 68) (mj := 64) (pos := 591) (r := 0) (as := [.inl (xs (i + 1)).toInt]) (st' := []) (P := fun r x => r = some (.inl (pd_volume D (xs (i + 1)).toInt)) ∧ pd_RC T n F (D) (Hs) x ∧ pd_gC h x) C rfl (by decide +kernel) (by decide +kernel) (by decide +kernel) rfl (Nat.le_of_ble_eq_true rfl) rfl rfl rfl (by omega) hroomc (p6_volume (d := 0) hR hS (fun h' a g => ⟨rfl, a, fun c hc => g c (by omega)⟩)) (fun r h1 hp => ?_)
  obtain ⟨rfl, hR1, g1⟩ := hp
  refine lc_m C (by decide +kernel) ?_
  refine lc_arg (k := 1) C (by omega) (by decide +kernel) (by decide +kernel) (by decide +kernel) (by decide +kernel) (by decide +kernel) ?_
  refine lc_call (d := 5) (idx := 71) (mj := 122) (pos := 1002) (r := 104) (as := [.inl (xs (i + 1)).toInt]) (st' := [.inl (pd_volume D (xs (i + 1)).toInt)]) (P := fun r x => r = some (.inl (pd_volume D (xs (i + 1)).toInt)) ∧ lc_I x) C rfl (by decide +kernel) (by decide +kernel) (by decide +kernel) rfl (Nat.le_of_ble_eq_true rfl) rfl rfl rfl (by omega) hroomc (p7_volume (d := 0) (pd_RM_gC hM g1) hS (bc_vr_ti _) (fun h' a g => ⟨rfl, T, n, F, _, _, pd_RC_gM hR1 g, a, hS⟩)) (fun r h2 hp => ?_)
  obtain ⟨rfl, hI2⟩ := hp
  exact lc_same (off := 303) (t := 792) C (by decide +kernel) (by decide) (kk h2 hI2)
theorem lc_amend (C : lc_X p s m c args b L xs Z A) (hi : i + 6 ≤ L) (hI : lc_I h) (hroomc : cells ≤ 601024 ∧ slots ≤ 7293034) (kk : ∀ h', lc_I h' → lc_W p l e s m args below meth c Q b Z A 792 i [] h' cells slots) : lc_W p l e s m args below meth c Q b Z A 692 i [] h cells slots := by
  obtain ⟨T, n, F, D, Hs, hR, hM, hS⟩ := hI
  refine lc_x C (by decide +kernel) ?_
  refine lc_arg (k := 1) C (by omega) (by decide +kernel) (by decide +kernel) (by decide +kernel) (by decide +kernel) (by decide +kernel) ?_
  refine lc_arg (k := 2) C (by omega) (by decide +kernel) (by decide +kernel) (by decide +kernel) (by decide +kernel) (by decide +kernel) ?_
  refine lc_arg (k := 3) C (by omega) (by decide +kernel) (by decide +kernel) (by decide +kernel) (by decide +kernel) (by decide +kernel) ?_
  refine lc_call (d := 4) (idx := 96) (mj := 71) (pos := 644) (r := 0) (as := [.inl (xs (i + 1)).toInt, .inl (xs (i + 2)).toInt, .inl (xs (i + 3)).toInt]) (st' := []) (P := fun r x => r = some (.inl (pd_amV D (xs (i + 1)).toInt (xs (i + 2)).toInt (xs (i + 3)).toInt)) ∧ pd_RC T n F (pd_aD (pd_amC D (xs (i + 1)).toInt (xs (i + 2)).toInt (xs (i + 3)).toInt) D (pd_st D (pd_amI (xs (i + 1)).toInt (xs (i + 2)).toInt) (xs (i + 3)).toInt)) (pd_aH (pd_amC D (xs (i + 1)).toInt (xs (i + 2)).toInt (xs (i + 3)).toInt) D Hs) x ∧ pd_gC h x) C rfl (by decide +kernel) (by decide +kernel) (by decide +kernel) rfl (Nat.le_of_ble_eq_true rfl) rfl rfl rfl (by omega) hroomc (p6_amend (d := 0) hR hS (bc_vr_ti _) (bc_vr_ti _) (bc_vr_ti _) (fun h' a g => ⟨rfl, a, g⟩)) (fun r h1 hp => ?_)
  obtain ⟨rfl, hR1, g1⟩ := hp
  refine lc_m C (by decide +kernel) ?_
  refine lc_arg (k := 1) C (by omega) (by decide +kernel) (by decide +kernel) (by decide +kernel) (by decide +kernel) (by decide +kernel) ?_
  refine lc_arg (k := 2) C (by omega) (by decide +kernel) (by decide +kernel) (by decide +kernel) (by decide +kernel) (by decide +kernel) ?_
  refine lc_arg (k := 3) C (by omega) (by decide +kernel) (by decide +kernel) (by decide +kernel) (by decide +kernel) (by decide +kernel) ?_
  refine lc_call (d := 4) (idx := 100) (mj := 131) (pos := 1034) (r := 104) (as := [.inl (xs (i + 1)).toInt, .inl (xs (i + 2)).toInt, .inl (xs (i + 3)).toInt]) (st' := [.inl (pd_amV D (xs (i + 1)).toInt (xs (i + 2)).toInt (xs (i + 3)).toInt)]) (P := fun r x => r = some (.inl (pd_amV D (xs (i + 1)).toInt (xs (i + 2)).toInt (xs (i + 3)).toInt)) ∧ lc_I x) C rfl (by decide +kernel) (by decide +kernel) (by decide +kernel) rfl (Nat.le_of_ble_eq_true rfl) rfl rfl rfl (by omega) hroomc (p7_amend (d := 0) (pd_RM_gC hM g1) hS (bc_vr_ti _) (bc_vr_ti _) (bc_vr_ti _) (fun h' a g => ⟨rfl, T, n, F, _, _, pd_RC_gM hR1 g, a, pd_SV_amend hS⟩)) (fun r h2 hp => ?_)
  obtain ⟨rfl, hI2⟩ := hp
  exact lc_same (off := 56) (t := 792) C (by decide +kernel) (by decide) (kk h2 hI2)
end LawM
