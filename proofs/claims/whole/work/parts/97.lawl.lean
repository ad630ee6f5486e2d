/-! the law's feed, end, text (printed by gen_last.py) -/
theorem pd_SV_txt {T D : Nat → Int} {n : Nat} {m F : Int} {Hs : List (Nat → Int)} (hS : pd_SV T m F D Hs) : pd_SV T 0 (pd_txF T n) (pd_txD T n D) (pd_txH T n Hs) := by
  refine ⟨⟨by omega, by omega⟩, fun i hi => by omega, ?_⟩
  unfold pd_txD pd_txH
  rcases q : pd_txr T n with r | r
  · exact ⟨(pd_tx_DI 13 0 pd_D0 0 r.1 r.2 rfl pd_D0_DI q).1, by simp, fun E hE => by cases hE⟩
  · exact hS.2.2
def pd_fdV (n : Int) : Int := if 420 < n then -1 else n + 20
def pd_fdN (n : Int) : Int := if 420 < n then n else n + 20
def pd_fdT (T : Nat → Int) (n a b c e f : Int) : Nat → Int := if 420 < n then T else pd_feed T n a b c e f
theorem pd_SV_fd {T D : Nat → Int} {n F a b c e f : Int} {Hs : List (Nat → Int)} (hS : pd_SV T n F D Hs) : pd_SV (pd_fdT T n a b c e f) (pd_fdN n) F D Hs := by
  unfold pd_fdT pd_fdN
  by_cases q : 420 < n
  · rw [if_pos q, if_pos q]; exact hS
  · rw [if_neg q, if_neg q]
    have := hS.1
    exact ⟨⟨by omega, by omega⟩, pd_feed_b hS.2.1, hS.2.2⟩
theorem pd_SV_en {T D : Nat → Int} {n F x : Int} {Hs : List (Nat → Int)} (hS : pd_SV T n F D Hs) : pd_SV T (if 0 ≤ x ∧ x ≤ n then x else n) F D Hs := by
  by_cases q : 0 ≤ x ∧ x ≤ n
  · rw [if_pos q]
    have := hS.1
    exact ⟨⟨by omega, by omega⟩, fun i hi => hS.2.1 i (by omega), hS.2.2⟩
  · rw [if_neg q]; exact hS
theorem p6_feedX {d : Nat} {T D : Nat → Int} {n F a b c e f : Int} {Hs : List (Nat → Int)} {h : bc_AH} {post : Option bc_AV → bc_AH → Prop} (hR : pd_RC T n F D Hs h) (hS : pd_SV T n F D Hs) (kk : ∀ h', pd_RC (pd_fdT T n a b c e f) (pd_fdN n) F D Hs h' → pd_gC h h' → post (some (.inl (pd_fdV n))) h') : bc_OK (d + 2) 54 [.inr (.inr 0), .inl a, .inl b, .inl c, .inl e, .inl f] h post := by
  unfold pd_fdT pd_fdN pd_fdV at kk
  refine p6_feed hR hS (fun q => ?_) (fun q h' x g => ?_)
  · rw [if_pos q, if_pos q, if_pos q] at kk; exact kk h hR (fun _ _ => rfl)
  · rw [if_neg (by omega), if_neg (by omega), if_neg (by omega)] at kk; exact kk h' x (fun q hq => g q (by omega) (by omega))
theorem p7_feedX {d : Nat} {T D : Nat → Int} {n F a b c e f : Int} {Hs : List (Nat → Int)} {h : bc_AH} {post : Option bc_AV → bc_AH → Prop} (hR : pd_RM T n F D Hs h) (hS : pd_SV T n F D Hs) (kk : ∀ h', pd_RM (pd_fdT T n a b c e f) (pd_fdN n) F D Hs h' → pd_gM h h' → post (some (.inl (pd_fdV n))) h') : bc_OK (d + 2) 84 [.inr (.inr 104), .inl a, .inl b, .inl c, .inl e, .inl f] h post := by
  unfold pd_fdT pd_fdN pd_fdV at kk
  refine p7_feed hR hS (fun q h' x g => ?_) (fun q h' x g => ?_)
  · rw [if_pos q, if_pos q, if_pos q] at kk; exact kk h' x (fun q hq => g q (by omega) (by omega))
  · rw [if_neg (by omega), if_neg (by omega), if_neg (by omega)] at kk; exact kk h' x (fun q hq => g q (by omega) (by omega))

section LawL
variable {p : Program} {l : Launch} {e : Env} {s : State} {m : MethodId} {args : Array Value} {below : List Frame} {meth : Method} {c : Code} {Q : State → Prop} {b L : Nat} {xs : Nat → Int32} {Z : bc_ZT} {A : Nat → Prop} {i cells slots : Nat} {h : bc_AH}
theorem lc_feed (C : lc_X p s m c args b L xs Z A) (hi : i + 6 ≤ L) (hI : lc_I h) (hroomc : cells ≤ 601024 ∧ slots ≤ 7293034) (kk : ∀ h', lc_I h' → lc_W p l e s m args below meth c Q b Z A 792 i [] h' cells slots) : lc_W p l e s m args below meth c Q b Z A 140 i [] h cells slots := by
  obtain ⟨T, n, F, D, Hs, hR, hM, hS⟩ := hI
  have hn : n = (n.toNat : Int) := by have := hS.1; omega
  refine lc_x C (by decide +kernel) ?_
  refine lc_arg (k := 1) C (by omega) (by decide +kernel) (by decide +kernel) (by decide +kernel) (by decide +kernel) (by decide +kernel) ?_
  refine lc_arg (k := 2) C (by omega) (by decide +kernel) (by decide +kernel) (by decide +kernel) (by decide +kernel) (by decide +kernel) ?_
  refine lc_arg (k := 3) C (by omega) (by decide +kernel) (by decide +kernel) (by decide +kernel) (by decide +kernel) (by decide +kernel) ?_
  refine lc_arg (k := 4) C (by omega) (by decide +kernel) (by decide +kernel) (by decide +kernel) (by decide +kernel) (by decide +kernel) ?_
  refine lc_arg (k := 5) C (by omega) (by decide +kernel) (by decide +kernel) (by decide +kernel) (by decide +kernel) (by decide +kernel) ?_
  refine lc_call (d := 2) (idx := 19) (mj := 54) (pos := 320) (r := 0) (as := [.inl (xs (i + 1)).toInt, .inl (xs (i + 2)).toInt, .inl (xs (i + 3)).toInt, .inl (xs (i + 4)).toInt, .inl (xs (i + 5)).toInt]) (st' := []) (P := fun r x => r = some (.inl (pd_fdV n)) ∧ pd_RC (pd_fdT T n (xs (i + 1)).toInt (xs (i + 2)).toInt (xs (i + 3)).toInt (xs (i + 4)).toInt (xs (i + 5)).toInt) (pd_fdN n) (F) (D) (Hs) x ∧ pd_gC h x) C rfl (by decide +kernel) (by decide +kernel) (by decide +kernel) rfl (Nat.le_of_ble_eq_true rfl) rfl rfl rfl (by omega) hroomc (p6_feedX (d := 0) hR hS (fun h' a g => ⟨rfl, a, g⟩)) (fun r h1 hp => ?_)
  obtain ⟨rfl, hR1, g1⟩ := hp
  refine lc_m C (by decide +kernel) ?_
  refine lc_arg (k := 1) C (by omega) (by decide +kernel) (by decide +kernel) (by decide +kernel) (by decide +kernel) (by decide +kernel) ?_
  refine lc_arg (k := 2) C (by omega) (by decide +kernel) (by decide +kernel) (by decide +kernel) (by decide +kernel) (by decide +kernel) ?_
  refine lc_arg (k := 3) C (by omega) (by decide +kernel) (by decide +kernel) (by decide +kernel) (by decide +kernel) (by decide +kernel) ?_
  refine lc_arg (k := 4) C (by omega) (by decide +kernel) (by decide +kernel) (by decide +kernel) (by decide +kernel) (by decide +kernel) ?_
  refine lc_arg (k := 5) C (by omega) (by decide +kernel) (by decide +kernel) (by decide +kernel) (by decide +kernel) (by decide +kernel) ?_
  refine lc_call (d := 2) (idx := 23) (mj := 84) (pos := 751) (r := 104) (as := [.inl (xs (i + 1)).toInt, .inl (xs (i + 2)).toInt, .inl (xs (i + 3)).toInt, .inl (xs (i + 4)).toInt, .inl (xs (i + 5)).toInt]) (st' := [.inl (pd_fdV n)]) (P := fun r x => r = some (.inl (pd_fdV n)) ∧ lc_I x) C rfl (by decide +kernel) (by decide +kernel) (by decide +kernel) rfl (Nat.le_of_ble_eq_true rfl) rfl rfl rfl (by omega) hroomc (p7_feedX (d := 0) (pd_RM_gC hM g1) hS (fun h' a g => ⟨rfl, _, _, _, _, _, pd_RC_gM hR1 g, a, pd_SV_fd hS⟩)) (fun r h2 hp => ?_)
  obtain ⟨rfl, hI2⟩ := hp
  exact lc_same (off := 584) (t := 792) C (by decide +kernel) (by decide) (kk h2 hI2)
theorem lc_end (C : lc_X p s m c args b L xs Z A) (hi : i + 6 ≤ L) (hI : lc_I h) (hroomc : cells ≤ 601024 ∧ slots ≤ 7293034) (kk : ∀ h', lc_I h' → lc_W p l e s m args below meth c Q b Z A 792 i [] h' cells slots) : lc_W p l e s m args below meth c Q b Z A 213 i [] h cells slots := by
  obtain ⟨T, n, F, D, Hs, hR, hM, hS⟩ := hI
  have hn : n = (n.toNat : Int) := by have := hS.1; omega
  refine lc_x C (by decide +kernel) ?_
  refine lc_arg (k := 1) C (by omega) (by decide +kernel) (by decide +kernel) (by decide +kernel) (by decide +kernel) (by decide +kernel) ?_
  refine lc_call (d := 1) (idx := 24) (mj := 55) (pos := 332) (r := 0) (as := [.inl (xs (i + 1)).toInt]) (st' := []) (P := fun r x => r = some (.inl (if 0 ≤ (xs (i + 1)).toInt ∧ (xs (i + 1)).toInt ≤ n then 1 else 0)) ∧ pd_RC (T) (if 0 ≤ (xs (i + 1)).toInt ∧ (xs (i + 1)).toInt ≤ n then (xs (i + 1)).toInt else n) (F) (D) (Hs) x ∧ pd_gC h x) C rfl (by decide +kernel) (by decide +kernel) (by decide +kernel) rfl (Nat.le_of_ble_eq_true rfl) rfl rfl rfl (by omega) hroomc (p6_end (d := 0) hR hS (bc_vr_ti _) (fun h' a g => ⟨rfl, a, fun c hc => g c (by omega)⟩)) (fun r h1 hp => ?_)
  obtain ⟨rfl, hR1, g1⟩ := hp
  refine lc_m C (by decide +kernel) ?_
  refine lc_arg (k := 1) C (by omega) (by decide +kernel) (by decide +kernel) (by decide +kernel) (by decide +kernel) (by decide +kernel) ?_
  refine lc_call (d := 1) (idx := 28) (mj := 85) (pos := 760) (r := 104) (as := [.inl (xs (i + 1)).toInt]) (st' := [.inl (if 0 ≤ (xs (i + 1)).toInt ∧ (xs (i + 1)).toInt ≤ n then 1 else 0)]) (P := fun r x => r = some (.inl (if 0 ≤ (xs (i + 1)).toInt ∧ (xs (i + 1)).toInt ≤ n then 1 else 0)) ∧ lc_I x) C rfl (by decide +kernel) (by decide +kernel) (by decide +kernel) rfl (Nat.le_of_ble_eq_true rfl) rfl rfl rfl (by omega) hroomc (p7_end (d := 0) (pd_RM_gC hM g1) hS (bc_vr_ti _) (fun h' a g => ⟨rfl, _, _, _, _, _, pd_RC_gM hR1 (fun c hc => g c (by omega)), a, pd_SV_en hS⟩)) (fun r h2 hp => ?_)
  obtain ⟨rfl, hI2⟩ := hp
  exact lc_same (off := 559) (t := 792) C (by decide +kernel) (by decide) (kk h2 hI2)
theorem lc_text (C : lc_X p s m c args b L xs Z A) (hi : i + 6 ≤ L) (hI : lc_I h) (hroomc : cells ≤ 601024 ∧ slots ≤ 7293034) (kk : ∀ h', lc_I h' → lc_W p l e s m args below meth c Q b Z A 792 i [] h' cells slots) : lc_W p l e s m args below meth c Q b Z A 238 i [] h cells slots := by
  obtain ⟨T, n, F, D, Hs, hR, hM, hS⟩ := hI
  have hn : n = (n.toNat : Int) := by have := hS.1; omega
  refine lc_x C (by decide +kernel) ?_
  refine lc_call (d := 9) (idx := 29) (mj := 56) (pos := 336) (r := 0) (as := []) (st' := []) (P := fun r x => r = some (.inl (pd_txV T n.toNat)) ∧ pd_RC (T) (0) (pd_txF T n.toNat) (pd_txD T n.toNat D) (pd_txH T n.toNat Hs) x ∧ pd_gC h x) C rfl (by decide +kernel) (by decide +kernel) (by decide +kernel) rfl (Nat.le_of_ble_eq_true rfl) rfl rfl rfl (by omega) hroomc (p6_textX (d := 0) hn hR hS (fun h' a g => ⟨rfl, a, g⟩)) (fun r h1 hp => ?_)
  obtain ⟨rfl, hR1, g1⟩ := hp
  refine lc_m C (by decide +kernel) ?_
  refine lc_call (d := 6) (idx := 33) (mj := 99) (pos := 857) (r := 104) (as := []) (st' := [.inl (pd_txV T n.toNat)]) (P := fun r x => r = some (.inl (pd_txV T n.toNat)) ∧ lc_I x) C rfl (by decide +kernel) (by decide +kernel) (by decide +kernel) rfl (Nat.le_of_ble_eq_true rfl) rfl rfl rfl (by omega) hroomc (p7_text (d := 0) hn (pd_RM_gC hM g1) hS (fun h' a g => ⟨rfl, _, _, _, _, _, pd_RC_gM hR1 g, a, pd_SV_txt hS⟩)) (fun r h2 hp => ?_)
  obtain ⟨rfl, hI2⟩ := hp
  exact lc_same (off := 546) (t := 792) C (by decide +kernel) (by decide) (kk h2 hI2)
end LawL
