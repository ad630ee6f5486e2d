/-! the law's invariant and its first case -/
theorem pd_RM_gC {T D : Nat → Int} {n F : Int} {Hs : List (Nat → Int)} {h h' : bc_AH} (hR : pd_RM T n F D Hs h) (g : pd_gC h h') : pd_RM T n F D Hs h' := by
  obtain ⟨⟨t1, t2⟩, f, cM, a1, a2⟩ := hR
  exact ⟨⟨by rw [g 104 (by omega)]; exact t1, fun i hi => by rw [g 105 (by omega)]; exact t2 i hi⟩, by rw [g 104 (by omega)]; exact f, pd_M_fr cM (g 106 (by omega)), by rw [g 104 (by omega)]; exact a1, fun j E hE i hi => by rw [g 108 (by omega)]; exact a2 j E hE i hi⟩
theorem pd_RC_gM {T D : Nat → Int} {n F : Int} {Hs : List (Nat → Int)} {h h' : bc_AH} (hR : pd_RC T n F D Hs h) (g : pd_gM h h') : pd_RC T n F D Hs h' :=
  pd_RC_fr hR (fun c a _ => g c (by omega)) (by rw [g 22 (by omega)]; exact hR.2.2.2.1)
/-- both sides hold one state -/
def lc_I (h : bc_AH) : Prop := ∃ (T : Nat → Int) (n F : Int) (D : Nat → Int) (Hs : List (Nat → Int)), pd_RC T n F D Hs h ∧ pd_RM T n F D Hs h ∧ pd_SV T n F D Hs
section LawCase
variable {p : Program} {l : Launch} {e : Env} {s : State} {m : MethodId} {args : Array Value} {below : List Frame} {meth : Method} {c : Code} {Q : State → Prop} {b L : Nat} {xs : Nat → Int32} {Z : bc_ZT} {A : Nat → Prop} {i cells slots : Nat} {h : bc_AH}
theorem lc_fault (C : lc_X p s m c args b L xs Z A) (hI : lc_I h) (hroomc : cells ≤ 601024 ∧ slots ≤ 7293034) (kk : ∀ h', lc_I h' → lc_W p l e s m args below meth c Q b Z A 792 i [] h' cells slots) : lc_W p l e s m args below meth c Q b Z A 251 i [] h cells slots := by
  obtain ⟨T, n, F, D, Hs, hR, hM, hS⟩ := hI
  refine lc_x C (by decide +kernel) ?_
  refine lc_call (d := 1) (idx := 34) (mj := 57) (pos := 463) (r := 0) (as := []) (st' := []) (P := fun r x => r = some (.inl F) ∧ x = h) C rfl (by decide +kernel) (by decide +kernel) (by decide +kernel) rfl (Nat.le_of_ble_eq_true rfl) rfl rfl rfl (by omega) hroomc (p6_fault (d := 0) hR ⟨rfl, rfl⟩) (fun r x hp => ?_)
  obtain ⟨rfl, hx⟩ := hp
  rw [hx]
  refine lc_m C (by decide +kernel) ?_
  refine lc_call (d := 1) (idx := 37) (mj := 100) (pos := 908) (r := 104) (as := []) (st' := [.inl F]) (P := fun r x => r = some (.inl F) ∧ lc_I x) C rfl (by decide +kernel) (by decide +kernel) (by decide +kernel) rfl (Nat.le_of_ble_eq_true rfl) rfl rfl rfl (by omega) hroomc (p7_fault (d := 0) hM (fun h' a g => ⟨rfl, T, n, F, D, Hs, pd_RC_gM hR (fun c hc => g c (by omega)), a, hS⟩)) (fun r x hp => ?_)
  obtain ⟨rfl, hx⟩ := hp
  exact lc_same (off := 533) (t := 792) C (by decide +kernel) (by decide) (kk x hx)
end LawCase
