/-! whole_start (printed by gen_start2.py) -/
def kz_Z (g : va_G) (a : Nat) (adK adV : Nat → Nat) (cI cL cD : ClassId) : bc_ZT := (g, (fun k => if k < 1000 then a + k else if k < 1100 then adK (k - 1000) else adV (k - 1100)), cI, cL, cD)
section Start
variable {g : va_G} {a : Nat} {adK adV : Nat → Nat} {cI cL cD : ClassId} {H : Heap}
theorem kz_arr {c : ClassId} {f f' : Nat → Value} (h : ∀ j, j < 8 → f j = f' j) : arrV c 8 f = arrV c 8 f' := by
  unfold arrV
  have : (fun j : Fin 8 => f j.1) = fun j : Fin 8 => f' j.1 := funext fun j => h j.1 j.2
  rw [this]
theorem kz_E1 : ∀ k, k < 104 → k ≠ 31 → kE_BC (kz_Z g a adK adV cI cL cD) a k = bc_E (kz_Z g a adK adV cI cL cD) kc_h0 (k) := fun k hk h31 => match k, hk, h31 with
  | 0, _, _ => rfl
  | 1, _, _ => rfl
  | 2, _, _ => rfl
  | 3, _, _ => rfl
  | 4, _, _ => rfl
  | 5, _, _ => rfl
  | 6, _, _ => rfl
  | 7, _, _ => rfl
  | 8, _, _ => rfl
  | 9, _, _ => rfl
  | 10, _, _ => rfl
  | 11, _, _ => rfl
  | 12, _, _ => rfl
  | 13, _, _ => rfl
  | 14, _, _ => rfl
  | 15, _, _ => rfl
  | 16, _, _ => rfl
  | 17, _, _ => rfl
  | 18, _, _ => rfl
  | 19, _, _ => rfl
  | 20, _, _ => rfl
  | 21, _, _ => rfl
  | 22, _, _ => rfl
  | 23, _, _ => rfl
  | 24, _, _ => rfl
  | 25, _, _ => rfl
  | 26, _, _ => rfl
  | 27, _, _ => rfl
  | 28, _, _ => rfl
  | 29, _, _ => rfl
  | 30, _, _ => rfl
  | 31, _, h => absurd rfl h
  | 32, _, _ => rfl
  | 33, _, _ => rfl
  | 34, _, _ => rfl
  | 35, _, _ => rfl
  | 36, _, _ => rfl
  | 37, _, _ => rfl
  | 38, _, _ => rfl
  | 39, _, _ => rfl
  | 40, _, _ => rfl
  | 41, _, _ => rfl
  | 42, _, _ => rfl
  | 43, _, _ => rfl
  | 44, _, _ => rfl
  | 45, _, _ => rfl
  | 46, _, _ => rfl
  | 47, _, _ => rfl
  | 48, _, _ => rfl
  | 49, _, _ => rfl
  | 50, _, _ => rfl
  | 51, _, _ => rfl
  | 52, _, _ => rfl
  | 53, _, _ => rfl
  | 54, _, _ => rfl
  | 55, _, _ => rfl
  | 56, _, _ => rfl
  | 57, _, _ => rfl
  | 58, _, _ => rfl
  | 59, _, _ => rfl
  | 60, _, _ => rfl
  | 61, _, _ => rfl
  | 62, _, _ => rfl
  | 63, _, _ => rfl
  | 64, _, _ => rfl
  | 65, _, _ => rfl
  | 66, _, _ => rfl
  | 67, _, _ => rfl
  | 68, _, _ => rfl
  | 69, _, _ => rfl
  | 70, _, _ => rfl
  | 71, _, _ => rfl
  | 72, _, _ => rfl
  | 73, _, _ => rfl
  | 74, _, _ => rfl
  | 75, _, _ => rfl
  | 76, _, _ => rfl
  | 77, _, _ => rfl
  | 78, _, _ => rfl
  | 79, _, _ => rfl
  | 80, _, _ => rfl
  | 81, _, _ => rfl
  | 82, _, _ => rfl
  | 83, _, _ => rfl
  | 84, _, _ => rfl
  | 85, _, _ => rfl
  | 86, _, _ => rfl
  | 87, _, _ => rfl
  | 88, _, _ => rfl
  | 89, _, _ => rfl
  | 90, _, _ => rfl
  | 91, _, _ => rfl
  | 92, _, _ => rfl
  | 93, _, _ => rfl
  | 94, _, _ => rfl
  | 95, _, _ => rfl
  | 96, _, _ => rfl
  | 97, _, _ => rfl
  | 98, _, _ => rfl
  | 99, _, _ => rfl
  | 100, _, _ => rfl
  | 101, _, _ => rfl
  | 102, _, _ => rfl
  | 103, _, _ => rfl
  | k + 104, h, _ => absurd h (by omega)
theorem kz_E2 : ∀ k, k < 13 → k ≠ 31 → kE_Model (kz_Z g a adK adV cI cL cD) (a + 104) k = bc_E (kz_Z g a adK adV cI cL cD) kc_h0 (104 + k) := fun k hk h31 => match k, hk, h31 with
  | 0, _, _ => rfl
  | 1, _, _ => rfl
  | 2, _, _ => rfl
  | 3, _, _ => rfl
  | 4, _, _ => rfl
  | 5, _, _ => rfl
  | 6, _, _ => rfl
  | 7, _, _ => rfl
  | 8, _, _ => rfl
  | 9, _, _ => rfl
  | 10, _, _ => rfl
  | 11, _, _ => rfl
  | 12, _, _ => rfl
  | k + 13, h, _ => absurd h (by omega)
theorem kz_31 (h : va_at g vwCl (a + 31, kE_BC (kz_Z g a adK adV cI cL cD) a 31) H) : va_at g vwCl (a + 31, bc_E (kz_Z g a adK adV cI cL cD) kc_h0 31) H := by
  have h' : H[a + 31]? = some (vp_cell cD (8, .inr (.inr (.inr (.inr (kf_i (a + 30) 8)))))) := h
  show H[a + 31]? = some (vp_cell cD (8, .inr (.inr (.inr (.inr (fun j => some ((kz_Z g a adK adV cI cL cD).2.1 (([(2, 32), (2, 41), (2, 50), (2, 59), (2, 68), (2, 77), (2, 86), (2, 95)] : List (Nat × Nat)).getD j (0, 0)).2)))))))
  rw [h']
  rw [vp_cell_q, vp_cell_q]
  refine congrArg some (kz_arr (fun j hj => ?_))
  match j, hj with
  | 0, _ => rfl
  | 1, _ => rfl
  | 2, _ => rfl
  | 3, _ => rfl
  | 4, _ => rfl
  | 5, _ => rfl
  | 6, _ => rfl
  | 7, _ => rfl
theorem kz_P (h1 : ∀ k, k < 104 → va_at g vwCl (a + k, kE_BC (kz_Z g a adK adV cI cL cD) a k) H) (h2 : ∀ k, k < 13 → va_at g vwCl (a + 104 + k, kE_Model (kz_Z g a adK adV cI cL cD) (a + 104) k) H) (h3 : va_at g vwCl (a + 117, .inl (cL, 1, .inr (.inl (fun _ => Int64.ofInt 0)))) H) : va_P g vwCl (bc_WS (kz_Z g a adK adV cI cL cD) kc_h0) H := by
  intro k q hq
  have hk : k < 118 := by
    have := (List.getElem?_eq_some_iff.mp hq).1
    rwa [bc_WS_len] at this
  rw [bc_WS_get _ _ hk] at hq
  cases hq
  have hz : (kz_Z g a adK adV cI cL cD).2.1 k = a + k := if_pos (by omega)
  rw [hz]
  by_cases q1 : k < 104
  · by_cases q2 : k = 31
    · subst q2; exact kz_31 (h1 31 (by omega))
    · rw [← kz_E1 k q1 q2]; exact h1 k q1
  · by_cases q3 : k = 117
    · subst q3; exact h3
    · have e := h2 (k - 104) (by omega)
      rw [kz_E2 (k - 104) (by omega) (by omega), show 104 + (k - 104) = k by omega, show a + 104 + (k - 104) = a + k by omega] at e
      exact e
end Start
theorem whole_start {p : Program} {e : Env} {s : State} {m : MethodId} {below : List Frame} {meth : Method} {c : Code} (l : Launch) (hflags : l.flags = flags0) {b L : Nat} {xs : Nat → Int32} (hL : L ≤ 3072) (C0 : lw_At p s m meth c b L xs) : W p l e room_1 s m #[Value.ref b] below meth c s.heap [] 0 0 (lw_Z below #[Value.ref b] s) (entryFrame m ([Value.ref b] : List Value).toArray 7) := by
  obtain ⟨hx, hb, hr, hml, hown, hts, hX, hbl, hlk, hgv⟩ := C0
  obtain ⟨g, cI, cL, cD, hK⟩ := kz_known hts
  obtain ⟨adK, adV, hv1, hv2⟩ := kz_strings hgv
  have hl : l.stackTraces = false := by unfold Launch.stackTraces; rw [hflags]; decide
  have hST := kz_ST (a := s.heap.size) (g := g) (cI := cI) (cL := cL) (cD := cD) hts hgv hv1 hv2
  have hT := kz_T hts hgv
  obtain ⟨a, ha⟩ : ∃ a, s.heap.size = a := ⟨_, rfl⟩
  have hKc : kc_K (kz_Z g a adK adV cI cL cD) s := ⟨hK, kz_NW hts, va_AO.of (hts _ (List.mem_of_getElem? (i := 288) (by decide +kernel)))⟩
  have X : kc_X p s m #[Value.ref b] c code bc_Rlaw := ⟨hx, hb, hown, fun w hw => hts w (List.mem_filter.mp hw).1⟩
  have hWK : bc_WK (kz_Z g a adK adV cI cL cD) (fun q => s.heap.size ≤ q) s s.heap := by
    refine ⟨hK, hKc.2.1, fun i j hi hj q => ?_, fun k hk => ?_, by rw [← ha]; exact hST⟩
    · have hi' : i < 118 := hi
      have hj' : j < 118 := hj
      have e1 : (kz_Z g a adK adV cI cL cD).2.1 i = a + i := if_pos (by omega)
      have e2 : (kz_Z g a adK adV cI cL cD).2.1 j = a + j := if_pos (by omega)
      rw [e1, e2] at q
      omega
    · have hk' : k < 118 := hk
      have e1 : (kz_Z g a adK adV cI cL cD).2.1 k = a + k := if_pos (by omega)
      rw [e1]
      show s.heap.size ≤ a + k
      omega
  have C : lc_X p s m c #[Value.ref b] b L xs (kz_Z g a adK adV cI cL cD) (fun q => s.heap.size ≤ q) := ⟨hx, hb, hml, hown, hts, fun q hq => hq, hWK, hX, hbl, fun q => by omega, hL⟩
  have hlv := lv_entry [.ref b] (n := 7) (Nat.le_of_ble_eq_true rfl)
  rw [lg_entry_eq]
  generalize hlsg : (lg_sl ([.ref b] : List Value) ++ List.replicate (7 - (lg_sl ([.ref b] : List Value)).length) Slot.unset).toArray = ls at hlv ⊢
  have hS : va_S (fun q => s.heap.size ≤ q) s.heap s.heap [] := va_S.rf
  have d0 : decode code 0 = .ok (.new 8, 3) := by decide +kernel
  have d3 : decode code 3 = .ok (.dup, 1) := by decide +kernel
  have d4 : decode code 4 = .ok (.invokespecial 15, 3) := by decide +kernel
  have d7 : decode code 7 = .ok (.astore_n 1, 1) := by decide +kernel
  have d8 : decode code 8 = .ok (.new 16, 3) := by decide +kernel
  have d11 : decode code 11 = .ok (.dup, 1) := by decide +kernel
  have d12 : decode code 12 = .ok (.invokespecial 18, 3) := by decide +kernel
  have d15 : decode code 15 = .ok (.astore_n 2, 1) := by decide +kernel
  have d16 : decode code 16 = .ok (.iconst 1, 1) := by decide +kernel
  have d17 : decode code 17 = .ok (.newarray .long, 2) := by decide +kernel
  have d19 : decode code 19 = .ok (.astore_n 3, 1) := by decide +kernel
  have d20 : decode code 20 = .ok (.iconst 0, 1) := by decide +kernel
  have d21 : decode code 21 = .ok (.istore 4, 2) := by decide +kernel
  refine kx_new (ci := 6) (idx := 8) (i1 := 94) (i2 := 95) (i3 := 75) (a := a) (fs := [.null, .null, .null, .null, .null, .null]) X hKc hS rfl ha (by decide +kernel) (by decide +kernel) (by decide +kernel) (by decide +kernel) (Nat.le_of_ble_eq_true rfl) (Nat.le_of_ble_eq_true rfl) d0 (fun H1 z1 n1 o1 hS1 => ?_)
  refine lv_dup hx hb d3 rfl ?_
  refine kx_callP (mi := 53) (d := 2) (mc := 103) (ms := 2606) (a := a) (n := 104) (nL := 7) (np := 0) (idx := 15) (pos := 96) (p1 := 97) (p3 := 75) (vals := []) (rest := [.ref a]) X hKc hml hlv.1 hS1 (fun q hq => by show s.heap.size ≤ q; omega) z1 n1 kc_X6_init kw_X6_init rfl (by decide +kernel) (by decide +kernel) (by decide +kernel) rfl rfl (by decide +kernel) ⟨Nat.le_of_ble_eq_true rfl, Nat.le_of_ble_eq_true rfl⟩ ⟨Nat.le_of_ble_eq_true rfl, Nat.le_of_ble_eq_true rfl⟩ (Nat.le_of_ble_eq_true rfl) d4 (fun H2 locs2 z2 hE2 o2 hS2 => ?_)
  refine lv_astore_n (nL := 7) (lv' := [(1, .ref a), (0, .ref b)]) hx hb d7 rfl hlv (by decide) rfl (fun ls1 hlv1 => ?_)
  refine kx_new (ci := 7) (idx := 16) (i1 := 764) (i2 := 758) (i3 := 82) (a := a + 104) (fs := [.int (Int32.ofInt 0), .null, .int (Int32.ofInt 0), .int (Int32.ofInt 0), .int (Int32.ofInt 0), .int (Int32.ofInt 0), .int (Int32.ofInt 0), .int (Int32.ofInt 0), .int (Int32.ofInt 0), .int (Int32.ofInt 0), .long (Int64.ofInt 0), .null, .null, .null, .int (Int32.ofInt 0), .null, .int (Int32.ofInt 0), .null, .null, .null, .null, .null, .null, .int (Int32.ofInt 0), .int (Int32.ofInt 0), .int (Int32.ofInt 0), .int (Int32.ofInt 0), .null]) X hKc hS2 rfl z2 (by decide +kernel) (by decide +kernel) (by decide +kernel) (by decide +kernel) (Nat.le_of_ble_eq_true rfl) (Nat.le_of_ble_eq_true rfl) d8 (fun H3 z3 n3 o3 hS3 => ?_)
  refine lv_dup hx hb d11 rfl ?_
  refine kx_callP (mi := 92) (d := 1) (mc := 12) (ms := 2776) (a := a + 104) (n := 13) (nL := 7) (np := 0) (idx := 18) (pos := 765) (p1 := 766) (p3 := 82) (vals := []) (rest := [.ref (a + 104)]) X hKc hml hlv1.1 hS3 (fun q hq => by show s.heap.size ≤ q; omega) z3 n3 kc_X7_init kw_X7_init rfl (by decide +kernel) (by decide +kernel) (by decide +kernel) rfl rfl (by decide +kernel) ⟨Nat.le_of_ble_eq_true rfl, Nat.le_of_ble_eq_true rfl⟩ ⟨Nat.le_of_ble_eq_true rfl, Nat.le_of_ble_eq_true rfl⟩ (Nat.le_of_ble_eq_true rfl) d12 (fun H4 locs4 z4 hE4 o4 hS4 => ?_)
  refine lv_astore_n (nL := 7) (lv' := [(2, .ref (a + 104)), (1, .ref a), (0, .ref b)]) hx hb d15 rfl hlv1 (by decide) rfl (fun ls2 hlv2 => ?_)
  refine lv_iconst (v := Int32.ofInt ((1 : Nat) : Int)) hx hb d16 rfl ?_
  refine kx_newl (N := 1) (a := a + 117) X hKc hS4 z4 (by omega) (Nat.le_of_ble_eq_true rfl) (Nat.le_of_ble_eq_true rfl) d17 (fun H5 z5 n5 o5 hS5 => ?_)
  refine lv_astore_n (nL := 7) (lv' := [(3, .ref (a + 117)), (2, .ref (a + 104)), (1, .ref a), (0, .ref b)]) hx hb d19 rfl hlv2 (by decide) rfl (fun ls3 hlv3 => ?_)
  refine lv_iconst (v := Int32.ofInt ((0 : Nat) : Int)) hx hb d20 rfl ?_
  refine lv_istore (nL := 7) (lv' := [(4, .int (Int32.ofInt ((0 : Nat) : Int))), (3, .ref (a + 117)), (2, .ref (a + 104)), (1, .ref a), (0, .ref b)]) hx hb d21 hlv3 (by decide) rfl (fun ls4 hlv4 => ?_)
  have hP : va_P g vwCl (bc_WS (kz_Z g a adK adV cI cL cD) kc_h0) H5 := by
    refine kz_P (fun k hk => ?_) (fun k hk => ?_) n5
    · exact ((hE2 k hk).kept (o3 _ (by show a + k < a + 104; omega))).kept (o4 _ (by show a + k < a + 104; omega)) |>.kept (o5 _ (by show a + k < a + 117; omega))
    · exact (hE4 k hk).kept (o5 _ (by show a + 104 + k < a + 117; omega))
  exact lc_loop C hl hT (fun q hq => hq) hr hlk L 0 (0 + 1 + 103 + 1 + 12 + 1) (0 + 6 + 2606 + 28 + 2776 + 1) kc_h0 (by omega) (by omega) kz_I (by omega) (by omega) H5 locs4 ls4 hP hS5 (lc_has_L (lv_sub hlv4 [0, 4, 3, 2, 1] rfl))
