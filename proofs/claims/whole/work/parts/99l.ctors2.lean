/-! the constructors of the class and of the reference (printed by gen_ctor2.py) -/
def kE_BC (Z : bc_ZT) (a k : Nat) : va_E := if k = 0 then .inr (6, [.ref (a + 1), .ref (a + 3), .ref (a + 4), .ref (a + 13), .ref (a + 22), .ref (a + 30)]) else if k < 3 then kE_Tape Z (a + 1) (k - 1) else if k < 4 then kE_Reader (a + 1) (k - 3) else if k < 13 then kE_Desk Z (a + 4) (k - 4) else if k < 22 then kE_Desk Z (a + 13) (k - 13) else if k < 30 then kE_Cross Z (a + 22) (a + 4) (k - 22) else kE_Past Z (a + 30) (k - 30)
section KB
variable {Z : bc_ZT} {a : Nat}
theorem kb_5 : ∀ k, k < 2 → kE_BC Z a (1 + k) = kE_Tape Z (a + 1) k := fun k hk => by
  unfold kE_BC
  rw [if_neg (by omega), if_pos (by omega), show 1 + k - 1 = k by omega]
theorem kb_3 : ∀ k, k < 1 → kE_BC Z a (3 + k) = kE_Reader (a + 1) k := fun k hk => by
  unfold kE_BC
  rw [if_neg (by omega), if_neg (by omega), if_pos (by omega), show 3 + k - 3 = k by omega]
theorem kb_1a : ∀ k, k < 9 → kE_BC Z a (4 + k) = kE_Desk Z (a + 4) k := fun k hk => by
  unfold kE_BC
  rw [if_neg (by omega), if_neg (by omega), if_neg (by omega), if_pos (by omega), show 4 + k - 4 = k by omega]
theorem kb_1b : ∀ k, k < 9 → kE_BC Z a (13 + k) = kE_Desk Z (a + 13) k := fun k hk => by
  unfold kE_BC
  rw [if_neg (by omega), if_neg (by omega), if_neg (by omega), if_neg (by omega), if_pos (by omega), show 13 + k - 13 = k by omega]
theorem kb_0 : ∀ k, k < 8 → kE_BC Z a (22 + k) = kE_Cross Z (a + 22) (a + 4) k := fun k hk => by
  unfold kE_BC
  rw [if_neg (by omega), if_neg (by omega), if_neg (by omega), if_neg (by omega), if_neg (by omega), if_pos (by omega), show 22 + k - 22 = k by omega]
theorem kb_2 : ∀ k, k < 74 → kE_BC Z a (30 + k) = kE_Past Z (a + 30) k := fun k hk => by
  unfold kE_BC
  rw [if_neg (by omega), if_neg (by omega), if_neg (by omega), if_neg (by omega), if_neg (by omega), if_neg (by omega), show 30 + k - 30 = k by omega]
end KB
set_option maxRecDepth 100000 in
theorem kw_X6_init : Cond.code (bc_y 53) (bc_by 53) (bc_mL 53) (bc_rt 53) ∈ bc_GW := bc_gw (i := 98) rfl rfl
theorem kc_X6_init {l : Launch} {Z : bc_ZT} {a : Nat} : kc_Met l 53 2 103 2606 Z (a) [] (.inr (6, [.null, .null, .null, .null, .null, .null])) 104 (kE_BC Z a) := by
  refine kc_of (by decide +kernel) rfl rfl (Nat.le_of_ble_eq_true rfl) ?_
  intro p e s m below meth c ls X hret hlk hinit hml hlv hsz hK hat
  have hx := X.1
  have hb := X.2.1
  have hS : va_S (fun q => a ≤ q) s.heap s.heap [] := va_S.rf
  have hF : ∀ k, 1 ≤ k → k < 1 → va_at Z.1 vwCl (a + k, (kE_BC Z a) k) s.heap := fun k h1 h2 => by omega
  have d0 : decode (bc_by 53) 0 = .ok (.aload_n 0, 1) := by decide +kernel
  have d1 : decode (bc_by 53) 1 = .ok (.invokespecial 1, 3) := by decide +kernel
  have d4 : decode (bc_by 53) 4 = .ok (.aload_n 0, 1) := by decide +kernel
  have d5 : decode (bc_by 53) 5 = .ok (.new 7, 3) := by decide +kernel
  have d8 : decode (bc_by 53) 8 = .ok (.dup, 1) := by decide +kernel
  have d9 : decode (bc_by 53) 9 = .ok (.invokespecial 9, 3) := by decide +kernel
  have d12 : decode (bc_by 53) 12 = .ok (.putfield 10, 3) := by decide +kernel
  have d15 : decode (bc_by 53) 15 = .ok (.aload_n 0, 1) := by decide +kernel
  have d16 : decode (bc_by 53) 16 = .ok (.new 16, 3) := by decide +kernel
  have d19 : decode (bc_by 53) 19 = .ok (.dup, 1) := by decide +kernel
  have d20 : decode (bc_by 53) 20 = .ok (.aload_n 0, 1) := by decide +kernel
  have d21 : decode (bc_by 53) 21 = .ok (.getfield 10, 3) := by decide +kernel
  have d24 : decode (bc_by 53) 24 = .ok (.invokespecial 18, 3) := by decide +kernel
  have d27 : decode (bc_by 53) 27 = .ok (.putfield 21, 3) := by decide +kernel
  have d30 : decode (bc_by 53) 30 = .ok (.aload_n 0, 1) := by decide +kernel
  have d31 : decode (bc_by 53) 31 = .ok (.new 25, 3) := by decide +kernel
  have d34 : decode (bc_by 53) 34 = .ok (.dup, 1) := by decide +kernel
  have d35 : decode (bc_by 53) 35 = .ok (.invokespecial 27, 3) := by decide +kernel
  have d38 : decode (bc_by 53) 38 = .ok (.putfield 28, 3) := by decide +kernel
  have d41 : decode (bc_by 53) 41 = .ok (.aload_n 0, 1) := by decide +kernel
  have d42 : decode (bc_by 53) 42 = .ok (.new 25, 3) := by decide +kernel
  have d45 : decode (bc_by 53) 45 = .ok (.dup, 1) := by decide +kernel
  have d46 : decode (bc_by 53) 46 = .ok (.invokespecial 27, 3) := by decide +kernel
  have d49 : decode (bc_by 53) 49 = .ok (.putfield 32, 3) := by decide +kernel
  have d52 : decode (bc_by 53) 52 = .ok (.aload_n 0, 1) := by decide +kernel
  have d53 : decode (bc_by 53) 53 = .ok (.new 35, 3) := by decide +kernel
  have d56 : decode (bc_by 53) 56 = .ok (.dup, 1) := by decide +kernel
  have d57 : decode (bc_by 53) 57 = .ok (.aload_n 0, 1) := by decide +kernel
  have d58 : decode (bc_by 53) 58 = .ok (.getfield 28, 3) := by decide +kernel
  have d61 : decode (bc_by 53) 61 = .ok (.invokespecial 37, 3) := by decide +kernel
  have d64 : decode (bc_by 53) 64 = .ok (.putfield 40, 3) := by decide +kernel
  have d67 : decode (bc_by 53) 67 = .ok (.aload_n 0, 1) := by decide +kernel
  have d68 : decode (bc_by 53) 68 = .ok (.new 44, 3) := by decide +kernel
  have d71 : decode (bc_by 53) 71 = .ok (.dup, 1) := by decide +kernel
  have d72 : decode (bc_by 53) 72 = .ok (.invokespecial 46, 3) := by decide +kernel
  have d75 : decode (bc_by 53) 75 = .ok (.putfield 47, 3) := by decide +kernel
  have d78 : decode (bc_by 53) 78 = .ok (.return_, 1) := by decide +kernel
  refine lv_aload_n hx hb d0 rfl (lv_at hlv 0 rfl) ?_
  refine kx_obj (pos := 99) X (hlv.1.trans hml.symm) (by decide +kernel) ⟨Nat.le_of_ble_eq_true rfl, Nat.le_of_ble_eq_true rfl⟩ d1 ?_
  refine lv_aload_n hx hb d4 rfl (lv_at hlv 0 rfl) ?_
  refine kx_new (ci := 5) (idx := 7) (i1 := 102) (i2 := 103) (i3 := 76) (a := a + 1) (fs := [.null, .int (Int32.ofInt 0)]) X hK hS rfl hsz (by decide +kernel) (by decide +kernel) (by decide +kernel) (by decide +kernel) (Nat.le_of_ble_eq_true rfl) (Nat.le_of_ble_eq_true rfl) d5 (fun H z1 hn o1 hS => ?_)
  have hat := hat.kept (o1 _ (by show a < a + 1; omega))
  have hF := kf_old hF o1
  have hsz : H.size = a + 1 + 1 := z1
  refine lv_dup hx hb d8 rfl ?_
  refine kx_call (mi := 49) (d := 0) (mc := 1) (ms := 440) (a := a + 1) (n := 2) (nL := 1) (np := 0) (idx := 9) (pos := 104) (p1 := 105) (p3 := 76) (vals := []) (rest := [.ref (a + 1), .ref a]) X hK hml hlv.1 hS (fun q hq => by omega) hsz hn (kc_X5_init) kw_X5_init rfl (by decide +kernel) (by decide +kernel) (by decide +kernel) rfl rfl (by decide +kernel) ⟨Nat.le_of_ble_eq_true rfl, Nat.le_of_ble_eq_true rfl⟩ ⟨Nat.le_of_ble_eq_true rfl, Nat.le_of_ble_eq_true rfl⟩ (Nat.le_of_ble_eq_true rfl) d9 (fun H locs z1 hEn o1 hS => ?_)
  have hat := hat.kept (o1 _ (by show a < a + 1; omega))
  have hF := kf_call (n := 1) (j := 2) (E := kE_BC Z a) hF o1 hEn kb_5
  have hsz : H.size = a + 3 := z1
  refine kx_put (ci := 6) (k := 0) (idx := 10) (pos := 301) (a := a) (fs := [.null, .null, .null, .null, .null, .null]) (v := .ref (a + 1)) (ty := tyX6 0) X hK hS (Nat.le_refl a) rfl hat hinit (by decide) (Nat.le_of_ble_eq_true rfl) (by decide +kernel) rfl (tyX6_ok 0 (by decide)) rfl rfl rfl d12 (fun H locs z1 hat oq hS => ?_)
  have hF := kf_put hF oq
  have hsz : H.size = a + 3 := z1.trans hsz
  have hat : va_at Z.1 vwCl (a, .inr (6, [.ref (a + 1), .null, .null, .null, .null, .null])) H := hat
  refine lv_aload_n hx hb d15 rfl (lv_at hlv 0 rfl) ?_
  refine kx_new (ci := 3) (idx := 16) (i1 := 118) (i2 := 119) (i3 := 77) (a := a + 3) (fs := [.null, .int (Int32.ofInt 0), .int (Int32.ofInt 0), .int (Int32.ofInt 0), .int (Int32.ofInt 0), .int (Int32.ofInt 0), .int (Int32.ofInt 0)]) X hK hS rfl hsz (by decide +kernel) (by decide +kernel) (by decide +kernel) (by decide +kernel) (Nat.le_of_ble_eq_true rfl) (Nat.le_of_ble_eq_true rfl) d16 (fun H z1 hn o1 hS => ?_)
  have hat := hat.kept (o1 _ (by show a < a + 3; omega))
  have hF := kf_old hF o1
  have hsz : H.size = a + 3 + 1 := z1
  refine lv_dup hx hb d19 rfl ?_
  refine lv_aload_n hx hb d20 rfl (lv_at hlv 0 rfl) ?_
  refine kx_get (ci := 6) (k := 0) (idx := 10) (pos := 301) (a := a) (fs := [.ref (a + 1), .null, .null, .null, .null, .null]) (v := .ref (a + 1)) X hK rfl hat (by decide) (by decide +kernel) rfl rfl d21 ?_
  refine kx_call (mi := 29) (d := 0) (mc := 0) (ms := 0) (a := a + 3) (n := 1) (nL := 1) (np := 1) (idx := 18) (pos := 120) (p1 := 121) (p3 := 77) (vals := [.ref (a + 1)]) (rest := [.ref (a + 3), .ref a]) X hK hml hlv.1 hS (fun q hq => by omega) hsz hn (kc_X3_init (x := (a + 1))) kw_X3_init rfl (by decide +kernel) (by decide +kernel) (by decide +kernel) rfl rfl (by decide +kernel) ⟨Nat.le_of_ble_eq_true rfl, Nat.le_of_ble_eq_true rfl⟩ ⟨Nat.le_of_ble_eq_true rfl, Nat.le_of_ble_eq_true rfl⟩ (Nat.le_of_ble_eq_true rfl) d24 (fun H locs z1 hEn o1 hS => ?_)
  have hat := hat.kept (o1 _ (by show a < a + 3; omega))
  have hF := kf_call (n := 3) (j := 1) (E := kE_BC Z a) hF o1 hEn kb_3
  have hsz : H.size = a + 4 := z1
  refine kx_put (ci := 6) (k := 1) (idx := 21) (pos := 302) (a := a) (fs := [.ref (a + 1), .null, .null, .null, .null, .null]) (v := .ref (a + 3)) (ty := tyX6 1) X hK hS (Nat.le_refl a) rfl hat hinit (by decide) (Nat.le_of_ble_eq_true rfl) (by decide +kernel) rfl (tyX6_ok 1 (by decide)) rfl rfl rfl d27 (fun H locs z1 hat oq hS => ?_)
  have hF := kf_put hF oq
  have hsz : H.size = a + 4 := z1.trans hsz
  have hat : va_at Z.1 vwCl (a, .inr (6, [.ref (a + 1), .ref (a + 3), .null, .null, .null, .null])) H := hat
  refine lv_aload_n hx hb d30 rfl (lv_at hlv 0 rfl) ?_
  refine kx_new (ci := 1) (idx := 25) (i1 := 148) (i2 := 149) (i3 := 78) (a := a + 4) (fs := [.null, .null, .null, .null, .null, .null, .null, .null, .int (Int32.ofInt 0), .int (Int32.ofInt 0), .int (Int32.ofInt 0), .int (Int32.ofInt 0), .int (Int32.ofInt 0), .int (Int32.ofInt 0), .int (Int32.ofInt 0)]) X hK hS rfl hsz (by decide +kernel) (by decide +kernel) (by decide +kernel) (by decide +kernel) (Nat.le_of_ble_eq_true rfl) (Nat.le_of_ble_eq_true rfl) d31 (fun H z1 hn o1 hS => ?_)
  have hat := hat.kept (o1 _ (by show a < a + 4; omega))
  have hF := kf_old hF o1
  have hsz : H.size = a + 4 + 1 := z1
  refine lv_dup hx hb d34 rfl ?_
  refine kx_call (mi := 11) (d := 0) (mc := 8) (ms := 192) (a := a + 4) (n := 9) (nL := 1) (np := 0) (idx := 27) (pos := 150) (p1 := 151) (p3 := 78) (vals := []) (rest := [.ref (a + 4), .ref a]) X hK hml hlv.1 hS (fun q hq => by omega) hsz hn (kc_X1_init) kw_X1_init rfl (by decide +kernel) (by decide +kernel) (by decide +kernel) rfl rfl (by decide +kernel) ⟨Nat.le_of_ble_eq_true rfl, Nat.le_of_ble_eq_true rfl⟩ ⟨Nat.le_of_ble_eq_true rfl, Nat.le_of_ble_eq_true rfl⟩ (Nat.le_of_ble_eq_true rfl) d35 (fun H locs z1 hEn o1 hS => ?_)
  have hat := hat.kept (o1 _ (by show a < a + 4; omega))
  have hF := kf_call (n := 4) (j := 9) (E := kE_BC Z a) hF o1 hEn kb_1a
  have hsz : H.size = a + 13 := z1
  refine kx_put (ci := 6) (k := 2) (idx := 28) (pos := 303) (a := a) (fs := [.ref (a + 1), .ref (a + 3), .null, .null, .null, .null]) (v := .ref (a + 4)) (ty := tyX6 2) X hK hS (Nat.le_refl a) rfl hat hinit (by decide) (Nat.le_of_ble_eq_true rfl) (by decide +kernel) rfl (tyX6_ok 2 (by decide)) rfl rfl rfl d38 (fun H locs z1 hat oq hS => ?_)
  have hF := kf_put hF oq
  have hsz : H.size = a + 13 := z1.trans hsz
  have hat : va_at Z.1 vwCl (a, .inr (6, [.ref (a + 1), .ref (a + 3), .ref (a + 4), .null, .null, .null])) H := hat
  refine lv_aload_n hx hb d41 rfl (lv_at hlv 0 rfl) ?_
  refine kx_new (ci := 1) (idx := 25) (i1 := 148) (i2 := 149) (i3 := 78) (a := a + 13) (fs := [.null, .null, .null, .null, .null, .null, .null, .null, .int (Int32.ofInt 0), .int (Int32.ofInt 0), .int (Int32.ofInt 0), .int (Int32.ofInt 0), .int (Int32.ofInt 0), .int (Int32.ofInt 0), .int (Int32.ofInt 0)]) X hK hS rfl hsz (by decide +kernel) (by decide +kernel) (by decide +kernel) (by decide +kernel) (Nat.le_of_ble_eq_true rfl) (Nat.le_of_ble_eq_true rfl) d42 (fun H z1 hn o1 hS => ?_)
  have hat := hat.kept (o1 _ (by show a < a + 13; omega))
  have hF := kf_old hF o1
  have hsz : H.size = a + 13 + 1 := z1
  refine lv_dup hx hb d45 rfl ?_
  refine kx_call (mi := 11) (d := 0) (mc := 8) (ms := 192) (a := a + 13) (n := 9) (nL := 1) (np := 0) (idx := 27) (pos := 150) (p1 := 151) (p3 := 78) (vals := []) (rest := [.ref (a + 13), .ref a]) X hK hml hlv.1 hS (fun q hq => by omega) hsz hn (kc_X1_init) kw_X1_init rfl (by decide +kernel) (by decide +kernel) (by decide +kernel) rfl rfl (by decide +kernel) ⟨Nat.le_of_ble_eq_true rfl, Nat.le_of_ble_eq_true rfl⟩ ⟨Nat.le_of_ble_eq_true rfl, Nat.le_of_ble_eq_true rfl⟩ (Nat.le_of_ble_eq_true rfl) d46 (fun H locs z1 hEn o1 hS => ?_)
  have hat := hat.kept (o1 _ (by show a < a + 13; omega))
  have hF := kf_call (n := 13) (j := 9) (E := kE_BC Z a) hF o1 hEn kb_1b
  have hsz : H.size = a + 22 := z1
  refine kx_put (ci := 6) (k := 3) (idx := 32) (pos := 304) (a := a) (fs := [.ref (a + 1), .ref (a + 3), .ref (a + 4), .null, .null, .null]) (v := .ref (a + 13)) (ty := tyX6 3) X hK hS (Nat.le_refl a) rfl hat hinit (by decide) (Nat.le_of_ble_eq_true rfl) (by decide +kernel) rfl (tyX6_ok 3 (by decide)) rfl rfl rfl d49 (fun H locs z1 hat oq hS => ?_)
  have hF := kf_put hF oq
  have hsz : H.size = a + 22 := z1.trans hsz
  have hat : va_at Z.1 vwCl (a, .inr (6, [.ref (a + 1), .ref (a + 3), .ref (a + 4), .ref (a + 13), .null, .null])) H := hat
  refine lv_aload_n hx hb d52 rfl (lv_at hlv 0 rfl) ?_
  refine kx_new (ci := 0) (idx := 35) (i1 := 222) (i2 := 223) (i3 := 79) (a := a + 22) (fs := [.null, .null, .null, .null, .int (Int32.ofInt 0), .int (Int32.ofInt 0), .int (Int32.ofInt 0), .int (Int32.ofInt 0), .int (Int32.ofInt 0), .int (Int32.ofInt 0)]) X hK hS rfl hsz (by decide +kernel) (by decide +kernel) (by decide +kernel) (by decide +kernel) (Nat.le_of_ble_eq_true rfl) (Nat.le_of_ble_eq_true rfl) d53 (fun H z1 hn o1 hS => ?_)
  have hat := hat.kept (o1 _ (by show a < a + 22; omega))
  have hF := kf_old hF o1
  have hsz : H.size = a + 22 + 1 := z1
  refine lv_dup hx hb d56 rfl ?_
  refine lv_aload_n hx hb d57 rfl (lv_at hlv 0 rfl) ?_
  refine kx_get (ci := 6) (k := 2) (idx := 28) (pos := 303) (a := a) (fs := [.ref (a + 1), .ref (a + 3), .ref (a + 4), .ref (a + 13), .null, .null]) (v := .ref (a + 4)) X hK rfl hat (by decide) (by decide +kernel) rfl rfl d58 ?_
  refine kx_call (mi := 0) (d := 1) (mc := 7) (ms := 66) (a := a + 22) (n := 8) (nL := 1) (np := 1) (idx := 37) (pos := 224) (p1 := 225) (p3 := 79) (vals := [.ref (a + 4)]) (rest := [.ref (a + 22), .ref a]) X hK hml hlv.1 hS (fun q hq => by omega) hsz hn (kc_X0_init (x := (a + 4))) kw_X0_init rfl (by decide +kernel) (by decide +kernel) (by decide +kernel) rfl rfl (by decide +kernel) ⟨Nat.le_of_ble_eq_true rfl, Nat.le_of_ble_eq_true rfl⟩ ⟨Nat.le_of_ble_eq_true rfl, Nat.le_of_ble_eq_true rfl⟩ (Nat.le_of_ble_eq_true rfl) d61 (fun H locs z1 hEn o1 hS => ?_)
  have hat := hat.kept (o1 _ (by show a < a + 22; omega))
  have hF := kf_call (n := 22) (j := 8) (E := kE_BC Z a) hF o1 hEn kb_0
  have hsz : H.size = a + 30 := z1
  refine kx_put (ci := 6) (k := 4) (idx := 40) (pos := 305) (a := a) (fs := [.ref (a + 1), .ref (a + 3), .ref (a + 4), .ref (a + 13), .null, .null]) (v := .ref (a + 22)) (ty := tyX6 4) X hK hS (Nat.le_refl a) rfl hat hinit (by decide) (Nat.le_of_ble_eq_true rfl) (by decide +kernel) rfl (tyX6_ok 4 (by decide)) rfl rfl rfl d64 (fun H locs z1 hat oq hS => ?_)
  have hF := kf_put hF oq
  have hsz : H.size = a + 30 := z1.trans hsz
  have hat : va_at Z.1 vwCl (a, .inr (6, [.ref (a + 1), .ref (a + 3), .ref (a + 4), .ref (a + 13), .ref (a + 22), .null])) H := hat
  refine lv_aload_n hx hb d67 rfl (lv_at hlv 0 rfl) ?_
  refine kx_new (ci := 2) (idx := 44) (i1 := 281) (i2 := 282) (i3 := 81) (a := a + 30) (fs := [.null, .int (Int32.ofInt 0), .int (Int32.ofInt 0)]) X hK hS rfl hsz (by decide +kernel) (by decide +kernel) (by decide +kernel) (by decide +kernel) (Nat.le_of_ble_eq_true rfl) (Nat.le_of_ble_eq_true rfl) d68 (fun H z1 hn o1 hS => ?_)
  have hat := hat.kept (o1 _ (by show a < a + 30; omega))
  have hF := kf_old hF o1
  have hsz : H.size = a + 30 + 1 := z1
  refine lv_dup hx hb d71 rfl ?_
  refine kx_call (mi := 25) (d := 1) (mc := 73) (ms := 1664) (a := a + 30) (n := 74) (nL := 1) (np := 0) (idx := 46) (pos := 283) (p1 := 284) (p3 := 81) (vals := []) (rest := [.ref (a + 30), .ref a]) X hK hml hlv.1 hS (fun q hq => by omega) hsz hn (kc_X2_init) kw_X2_init rfl (by decide +kernel) (by decide +kernel) (by decide +kernel) rfl rfl (by decide +kernel) ⟨Nat.le_of_ble_eq_true rfl, Nat.le_of_ble_eq_true rfl⟩ ⟨Nat.le_of_ble_eq_true rfl, Nat.le_of_ble_eq_true rfl⟩ (Nat.le_of_ble_eq_true rfl) d72 (fun H locs z1 hEn o1 hS => ?_)
  have hat := hat.kept (o1 _ (by show a < a + 30; omega))
  have hF := kf_call (n := 30) (j := 74) (E := kE_BC Z a) hF o1 hEn kb_2
  have hsz : H.size = a + 104 := z1
  refine kx_put (ci := 6) (k := 5) (idx := 47) (pos := 306) (a := a) (fs := [.ref (a + 1), .ref (a + 3), .ref (a + 4), .ref (a + 13), .ref (a + 22), .null]) (v := .ref (a + 30)) (ty := tyX6 5) X hK hS (Nat.le_refl a) rfl hat hinit (by decide) (Nat.le_of_ble_eq_true rfl) (by decide +kernel) rfl (tyX6_ok 5 (by decide)) rfl rfl rfl d75 (fun H locs z1 hat oq hS => ?_)
  have hF := kf_put hF oq
  have hsz : H.size = a + 104 := z1.trans hsz
  have hat : va_at Z.1 vwCl (a, .inr (6, [.ref (a + 1), .ref (a + 3), .ref (a + 4), .ref (a + 13), .ref (a + 22), .ref (a + 30)])) H := hat
  exact kx_ret X hret hlk hS hsz hat hF d78
set_option maxRecDepth 100000 in
theorem kw_clears : Cond.code (bc_y 93) (bc_by 93) (bc_mL 93) (bc_rt 93) ∈ bc_GW := bc_gw (i := 771) rfl rfl
theorem kc_GS {own : String} {idx pos : Nat} (h : Cond.code (bc_y 93) (bc_by 93) (bc_mL 93) (bc_rt 93) ∈ bc_GW) (hw : bc_inG pos (.methodLink own idx (bc_y 93)) = true) : GoodIn bc_GW (va_wsS own idx (bc_y 93) (bc_ws 93)) := by
  have w2 : bc_inG 770 (.static (bc_y 93)) = true := by decide +kernel
  have w3 : bc_inG 82 (.initialized (bc_y 93).cls) = true := by decide +kernel
  intro w hw'
  have hm : w ∈ bc_GW := by
    rcases List.mem_append.mp hw' with h1 | h1
    · rcases List.mem_cons.mp h1 with e | h1
      · rw [e]; exact bc_inG_mem hw
      · rcases List.mem_cons.mp h1 with e | h1
        · rw [e]; exact bc_inG_mem w2
        · rcases List.mem_cons.mp h1 with e | h1
          · rw [e]; exact bc_inG_mem w3
          · cases h1
    · rcases List.mem_cons.mp h1 with e | h1
      · rw [e]; exact h
      · exact h1
  exact ⟨hm, bc_GW_good hm⟩
def kE_Model0 (Z : bc_ZT) (a : Nat) : Nat → va_E
  | 0 => .inr (7, [.int (Int32.ofInt 0), .ref (a + 1), .int (Int32.ofInt 0), .int (Int32.ofInt 0), .int (Int32.ofInt 0), .int (Int32.ofInt 0), .int (Int32.ofInt 0), .int (Int32.ofInt 0), .int (Int32.ofInt 0), .int (Int32.ofInt 0), .long (Int64.ofInt 0), .ref (a + 2), .ref (a + 3), .ref (a + 4), .int (Int32.ofInt 0), .ref (a + 5), .int (Int32.ofInt 0), .ref (a + 6), .ref (a + 7), .ref (a + 8), .ref (a + 9), .ref (a + 10), .ref (a + 11), .int (Int32.ofInt 0), .int (Int32.ofInt 0), .int (Int32.ofInt 0), .int (Int32.ofInt 0), .ref (a + 12)])
  | 1 => kc_A Z 440
  | 2 => kc_A Z 223
  | 3 => kc_A Z 223
  | 4 => kc_A Z 1784
  | 5 => kc_A Z 10
  | 6 => kc_A Z 24
  | 7 => kc_A Z 24
  | 8 => kc_A Z 6
  | 9 => kc_A Z 6
  | 10 => kc_A Z 6
  | 11 => kc_A Z 6
  | _ => kc_A Z 24
def kE_Model (Z : bc_ZT) (a k : Nat) : va_E := if k = 2 then kc_now Z else kE_Model0 Z a k
set_option maxRecDepth 100000 in
theorem kw_X7_init : Cond.code (bc_y 92) (bc_by 92) (bc_mL 92) (bc_rt 92) ∈ bc_GW := bc_gw (i := 767) rfl rfl
theorem kc_X7_init {l : Launch} {Z : bc_ZT} {a : Nat} : kc_Met l 92 1 12 2776 Z (a) [] (.inr (7, [.int (Int32.ofInt 0), .null, .int (Int32.ofInt 0), .int (Int32.ofInt 0), .int (Int32.ofInt 0), .int (Int32.ofInt 0), .int (Int32.ofInt 0), .int (Int32.ofInt 0), .int (Int32.ofInt 0), .int (Int32.ofInt 0), .long (Int64.ofInt 0), .null, .null, .null, .int (Int32.ofInt 0), .null, .int (Int32.ofInt 0), .null, .null, .null, .null, .null, .null, .int (Int32.ofInt 0), .int (Int32.ofInt 0), .int (Int32.ofInt 0), .int (Int32.ofInt 0), .null])) 13 (kE_Model Z a) := by
  refine kc_of (by decide +kernel) rfl rfl (Nat.le_of_ble_eq_true rfl) ?_
  intro p e s m below meth c ls X hret hlk hinit hml hlv hsz hK hat
  have hx := X.1
  have hb := X.2.1
  have hS : va_S (fun q => a ≤ q) s.heap s.heap [] := va_S.rf
  have hF : ∀ k, 1 ≤ k → k < 1 → va_at Z.1 vwCl (a + k, (kE_Model0 Z a) k) s.heap := fun k h1 h2 => by omega
  have d0 : decode (bc_by 92) 0 = .ok (.aload_n 0, 1) := by decide +kernel
  have d1 : decode (bc_by 92) 1 = .ok (.invokespecial 58, 3) := by decide +kernel
  have d4 : decode (bc_by 92) 4 = .ok (.aload_n 0, 1) := by decide +kernel
  have d5 : decode (bc_by 92) 5 = .ok (.sipush 440, 3) := by decide +kernel
  have d8 : decode (bc_by 92) 8 = .ok (.newarray .int, 2) := by decide +kernel
  have d10 : decode (bc_by 92) 10 = .ok (.putfield 7, 3) := by decide +kernel
  have d13 : decode (bc_by 92) 13 = .ok (.aload_n 0, 1) := by decide +kernel
  have d14 : decode (bc_by 92) 14 = .ok (.sipush 223, 3) := by decide +kernel
  have d17 : decode (bc_by 92) 17 = .ok (.newarray .int, 2) := by decide +kernel
  have d19 : decode (bc_by 92) 19 = .ok (.putfield 64, 3) := by decide +kernel
  have d22 : decode (bc_by 92) 22 = .ok (.aload_n 0, 1) := by decide +kernel
  have d23 : decode (bc_by 92) 23 = .ok (.sipush 223, 3) := by decide +kernel
  have d26 : decode (bc_by 92) 26 = .ok (.newarray .int, 2) := by decide +kernel
  have d28 : decode (bc_by 92) 28 = .ok (.putfield 67, 3) := by decide +kernel
  have d31 : decode (bc_by 92) 31 = .ok (.aload_n 0, 1) := by decide +kernel
  have d32 : decode (bc_by 92) 32 = .ok (.sipush 1784, 3) := by decide +kernel
  have d35 : decode (bc_by 92) 35 = .ok (.newarray .int, 2) := by decide +kernel
  have d37 : decode (bc_by 92) 37 = .ok (.putfield 70, 3) := by decide +kernel
  have d40 : decode (bc_by 92) 40 = .ok (.aload_n 0, 1) := by decide +kernel
  have d41 : decode (bc_by 92) 41 = .ok (.bipush 10, 2) := by decide +kernel
  have d43 : decode (bc_by 92) 43 = .ok (.newarray .int, 2) := by decide +kernel
  have d45 : decode (bc_by 92) 45 = .ok (.putfield 73, 3) := by decide +kernel
  have d48 : decode (bc_by 92) 48 = .ok (.aload_n 0, 1) := by decide +kernel
  have d49 : decode (bc_by 92) 49 = .ok (.bipush 24, 2) := by decide +kernel
  have d51 : decode (bc_by 92) 51 = .ok (.newarray .int, 2) := by decide +kernel
  have d53 : decode (bc_by 92) 53 = .ok (.putfield 76, 3) := by decide +kernel
  have d56 : decode (bc_by 92) 56 = .ok (.aload_n 0, 1) := by decide +kernel
  have d57 : decode (bc_by 92) 57 = .ok (.bipush 24, 2) := by decide +kernel
  have d59 : decode (bc_by 92) 59 = .ok (.newarray .int, 2) := by decide +kernel
  have d61 : decode (bc_by 92) 61 = .ok (.putfield 79, 3) := by decide +kernel
  have d64 : decode (bc_by 92) 64 = .ok (.aload_n 0, 1) := by decide +kernel
  have d65 : decode (bc_by 92) 65 = .ok (.bipush 6, 2) := by decide +kernel
  have d67 : decode (bc_by 92) 67 = .ok (.newarray .int, 2) := by decide +kernel
  have d69 : decode (bc_by 92) 69 = .ok (.putfield 82, 3) := by decide +kernel
  have d72 : decode (bc_by 92) 72 = .ok (.aload_n 0, 1) := by decide +kernel
  have d73 : decode (bc_by 92) 73 = .ok (.bipush 6, 2) := by decide +kernel
  have d75 : decode (bc_by 92) 75 = .ok (.newarray .int, 2) := by decide +kernel
  have d77 : decode (bc_by 92) 77 = .ok (.putfield 85, 3) := by decide +kernel
  have d80 : decode (bc_by 92) 80 = .ok (.aload_n 0, 1) := by decide +kernel
  have d81 : decode (bc_by 92) 81 = .ok (.bipush 6, 2) := by decide +kernel
  have d83 : decode (bc_by 92) 83 = .ok (.newarray .int, 2) := by decide +kernel
  have d85 : decode (bc_by 92) 85 = .ok (.putfield 88, 3) := by decide +kernel
  have d88 : decode (bc_by 92) 88 = .ok (.aload_n 0, 1) := by decide +kernel
  have d89 : decode (bc_by 92) 89 = .ok (.bipush 6, 2) := by decide +kernel
  have d91 : decode (bc_by 92) 91 = .ok (.newarray .int, 2) := by decide +kernel
  have d93 : decode (bc_by 92) 93 = .ok (.putfield 91, 3) := by decide +kernel
  have d96 : decode (bc_by 92) 96 = .ok (.aload_n 0, 1) := by decide +kernel
  have d97 : decode (bc_by 92) 97 = .ok (.bipush 24, 2) := by decide +kernel
  have d99 : decode (bc_by 92) 99 = .ok (.newarray .int, 2) := by decide +kernel
  have d101 : decode (bc_by 92) 101 = .ok (.putfield 94, 3) := by decide +kernel
  have d104 : decode (bc_by 92) 104 = .ok (.aload_n 0, 1) := by decide +kernel
  have d105 : decode (bc_by 92) 105 = .ok (.getfield 64, 3) := by decide +kernel
  have d111 : decode (bc_by 92) 111 = .ok (.return_, 1) := by decide +kernel
  refine lv_aload_n hx hb d0 rfl (lv_at hlv 0 rfl) ?_
  refine kx_obj (pos := 768) X (hlv.1.trans hml.symm) (by decide +kernel) ⟨Nat.le_of_ble_eq_true rfl, Nat.le_of_ble_eq_true rfl⟩ d1 ?_
  refine lv_aload_n hx hb d4 rfl (lv_at hlv 0 rfl) ?_
  refine lv_sipush (v := Int32.ofInt ((440 : Nat) : Int)) hx hb d5 (by decide +kernel) ?_
  refine kx_newa (N := 440) (a := a + 1) X hK hS hsz (by omega) (Nat.le_of_ble_eq_true rfl) (Nat.le_of_ble_eq_true rfl) d8 (fun H z1 hn o1 hS => ?_)
  have hat := hat.kept (o1 _ (by show a < a + 1; omega))
  have hF := kf_ext (n := 1) (E := kE_Model0 Z a) hF o1 hn
  have hsz : H.size = a + 2 := z1
  refine kx_put (ci := 7) (k := 1) (idx := 7) (pos := 773) (a := a) (fs := [.int (Int32.ofInt 0), .null, .int (Int32.ofInt 0), .int (Int32.ofInt 0), .int (Int32.ofInt 0), .int (Int32.ofInt 0), .int (Int32.ofInt 0), .int (Int32.ofInt 0), .int (Int32.ofInt 0), .int (Int32.ofInt 0), .long (Int64.ofInt 0), .null, .null, .null, .int (Int32.ofInt 0), .null, .int (Int32.ofInt 0), .null, .null, .null, .null, .null, .null, .int (Int32.ofInt 0), .int (Int32.ofInt 0), .int (Int32.ofInt 0), .int (Int32.ofInt 0), .null]) (v := .ref (a + 1)) (ty := tyX7 1) X hK hS (Nat.le_refl a) rfl hat hinit (by decide) (Nat.le_of_ble_eq_true rfl) (by decide +kernel) rfl (tyX7_ok 1 (by decide)) rfl rfl rfl d10 (fun H locs z1 hat oq hS => ?_)
  have hF := kf_put hF oq
  have hsz : H.size = a + 2 := z1.trans hsz
  have hat : va_at Z.1 vwCl (a, .inr (7, [.int (Int32.ofInt 0), .ref (a + 1), .int (Int32.ofInt 0), .int (Int32.ofInt 0), .int (Int32.ofInt 0), .int (Int32.ofInt 0), .int (Int32.ofInt 0), .int (Int32.ofInt 0), .int (Int32.ofInt 0), .int (Int32.ofInt 0), .long (Int64.ofInt 0), .null, .null, .null, .int (Int32.ofInt 0), .null, .int (Int32.ofInt 0), .null, .null, .null, .null, .null, .null, .int (Int32.ofInt 0), .int (Int32.ofInt 0), .int (Int32.ofInt 0), .int (Int32.ofInt 0), .null])) H := hat
  refine lv_aload_n hx hb d13 rfl (lv_at hlv 0 rfl) ?_
  refine lv_sipush (v := Int32.ofInt ((223 : Nat) : Int)) hx hb d14 (by decide +kernel) ?_
  refine kx_newa (N := 223) (a := a + 2) X hK hS hsz (by omega) (Nat.le_of_ble_eq_true rfl) (Nat.le_of_ble_eq_true rfl) d17 (fun H z1 hn o1 hS => ?_)
  have hat := hat.kept (o1 _ (by show a < a + 2; omega))
  have hF := kf_ext (n := 2) (E := kE_Model0 Z a) hF o1 hn
  have hsz : H.size = a + 3 := z1
  refine kx_put (ci := 7) (k := 11) (idx := 64) (pos := 783) (a := a) (fs := [.int (Int32.ofInt 0), .ref (a + 1), .int (Int32.ofInt 0), .int (Int32.ofInt 0), .int (Int32.ofInt 0), .int (Int32.ofInt 0), .int (Int32.ofInt 0), .int (Int32.ofInt 0), .int (Int32.ofInt 0), .int (Int32.ofInt 0), .long (Int64.ofInt 0), .null, .null, .null, .int (Int32.ofInt 0), .null, .int (Int32.ofInt 0), .null, .null, .null, .null, .null, .null, .int (Int32.ofInt 0), .int (Int32.ofInt 0), .int (Int32.ofInt 0), .int (Int32.ofInt 0), .null]) (v := .ref (a + 2)) (ty := tyX7 11) X hK hS (Nat.le_refl a) rfl hat hinit (by decide) (Nat.le_of_ble_eq_true rfl) (by decide +kernel) rfl (tyX7_ok 11 (by decide)) rfl rfl rfl d19 (fun H locs z1 hat oq hS => ?_)
  have hF := kf_put hF oq
  have hsz : H.size = a + 3 := z1.trans hsz
  have hat : va_at Z.1 vwCl (a, .inr (7, [.int (Int32.ofInt 0), .ref (a + 1), .int (Int32.ofInt 0), .int (Int32.ofInt 0), .int (Int32.ofInt 0), .int (Int32.ofInt 0), .int (Int32.ofInt 0), .int (Int32.ofInt 0), .int (Int32.ofInt 0), .int (Int32.ofInt 0), .long (Int64.ofInt 0), .ref (a + 2), .null, .null, .int (Int32.ofInt 0), .null, .int (Int32.ofInt 0), .null, .null, .null, .null, .null, .null, .int (Int32.ofInt 0), .int (Int32.ofInt 0), .int (Int32.ofInt 0), .int (Int32.ofInt 0), .null])) H := hat
  refine lv_aload_n hx hb d22 rfl (lv_at hlv 0 rfl) ?_
  refine lv_sipush (v := Int32.ofInt ((223 : Nat) : Int)) hx hb d23 (by decide +kernel) ?_
  refine kx_newa (N := 223) (a := a + 3) X hK hS hsz (by omega) (Nat.le_of_ble_eq_true rfl) (Nat.le_of_ble_eq_true rfl) d26 (fun H z1 hn o1 hS => ?_)
  have hat := hat.kept (o1 _ (by show a < a + 3; omega))
  have hF := kf_ext (n := 3) (E := kE_Model0 Z a) hF o1 hn
  have hsz : H.size = a + 4 := z1
  refine kx_put (ci := 7) (k := 12) (idx := 67) (pos := 784) (a := a) (fs := [.int (Int32.ofInt 0), .ref (a + 1), .int (Int32.ofInt 0), .int (Int32.ofInt 0), .int (Int32.ofInt 0), .int (Int32.ofInt 0), .int (Int32.ofInt 0), .int (Int32.ofInt 0), .int (Int32.ofInt 0), .int (Int32.ofInt 0), .long (Int64.ofInt 0), .ref (a + 2), .null, .null, .int (Int32.ofInt 0), .null, .int (Int32.ofInt 0), .null, .null, .null, .null, .null, .null, .int (Int32.ofInt 0), .int (Int32.ofInt 0), .int (Int32.ofInt 0), .int (Int32.ofInt 0), .null]) (v := .ref (a + 3)) (ty := tyX7 12) X hK hS (Nat.le_refl a) rfl hat hinit (by decide) (Nat.le_of_ble_eq_true rfl) (by decide +kernel) rfl (tyX7_ok 12 (by decide)) rfl rfl rfl d28 (fun H locs z1 hat oq hS => ?_)
  have hF := kf_put hF oq
  have hsz : H.size = a + 4 := z1.trans hsz
  have hat : va_at Z.1 vwCl (a, .inr (7, [.int (Int32.ofInt 0), .ref (a + 1), .int (Int32.ofInt 0), .int (Int32.ofInt 0), .int (Int32.ofInt 0), .int (Int32.ofInt 0), .int (Int32.ofInt 0), .int (Int32.ofInt 0), .int (Int32.ofInt 0), .int (Int32.ofInt 0), .long (Int64.ofInt 0), .ref (a + 2), .ref (a + 3), .null, .int (Int32.ofInt 0), .null, .int (Int32.ofInt 0), .null, .null, .null, .null, .null, .null, .int (Int32.ofInt 0), .int (Int32.ofInt 0), .int (Int32.ofInt 0), .int (Int32.ofInt 0), .null])) H := hat
  refine lv_aload_n hx hb d31 rfl (lv_at hlv 0 rfl) ?_
  refine lv_sipush (v := Int32.ofInt ((1784 : Nat) : Int)) hx hb d32 (by decide +kernel) ?_
  refine kx_newa (N := 1784) (a := a + 4) X hK hS hsz (by omega) (Nat.le_of_ble_eq_true rfl) (Nat.le_of_ble_eq_true rfl) d35 (fun H z1 hn o1 hS => ?_)
  have hat := hat.kept (o1 _ (by show a < a + 4; omega))
  have hF := kf_ext (n := 4) (E := kE_Model0 Z a) hF o1 hn
  have hsz : H.size = a + 5 := z1
  refine kx_put (ci := 7) (k := 13) (idx := 70) (pos := 785) (a := a) (fs := [.int (Int32.ofInt 0), .ref (a + 1), .int (Int32.ofInt 0), .int (Int32.ofInt 0), .int (Int32.ofInt 0), .int (Int32.ofInt 0), .int (Int32.ofInt 0), .int (Int32.ofInt 0), .int (Int32.ofInt 0), .int (Int32.ofInt 0), .long (Int64.ofInt 0), .ref (a + 2), .ref (a + 3), .null, .int (Int32.ofInt 0), .null, .int (Int32.ofInt 0), .null, .null, .null, .null, .null, .null, .int (Int32.ofInt 0), .int (Int32.ofInt 0), .int (Int32.ofInt 0), .int (Int32.ofInt 0), .null]) (v := .ref (a + 4)) (ty := tyX7 13) X hK hS (Nat.le_refl a) rfl hat hinit (by decide) (Nat.le_of_ble_eq_true rfl) (by decide +kernel) rfl (tyX7_ok 13 (by decide)) rfl rfl rfl d37 (fun H locs z1 hat oq hS => ?_)
  have hF := kf_put hF oq
  have hsz : H.size = a + 5 := z1.trans hsz
  have hat : va_at Z.1 vwCl (a, .inr (7, [.int (Int32.ofInt 0), .ref (a + 1), .int (Int32.ofInt 0), .int (Int32.ofInt 0), .int (Int32.ofInt 0), .int (Int32.ofInt 0), .int (Int32.ofInt 0), .int (Int32.ofInt 0), .int (Int32.ofInt 0), .int (Int32.ofInt 0), .long (Int64.ofInt 0), .ref (a + 2), .ref (a + 3), .ref (a + 4), .int (Int32.ofInt 0), .null, .int (Int32.ofInt 0), .null, .null, .null, .null, .null, .null, .int (Int32.ofInt 0), .int (Int32.ofInt 0), .int (Int32.ofInt 0), .int (Int32.ofInt 0), .null])) H := hat
  refine lv_aload_n hx hb d40 rfl (lv_at hlv 0 rfl) ?_
  refine lv_bipush (v := Int32.ofInt ((10 : Nat) : Int)) hx hb d41 (by decide +kernel) ?_
  refine kx_newa (N := 10) (a := a + 5) X hK hS hsz (by omega) (Nat.le_of_ble_eq_true rfl) (Nat.le_of_ble_eq_true rfl) d43 (fun H z1 hn o1 hS => ?_)
  have hat := hat.kept (o1 _ (by show a < a + 5; omega))
  have hF := kf_ext (n := 5) (E := kE_Model0 Z a) hF o1 hn
  have hsz : H.size = a + 6 := z1
  refine kx_put (ci := 7) (k := 15) (idx := 73) (pos := 787) (a := a) (fs := [.int (Int32.ofInt 0), .ref (a + 1), .int (Int32.ofInt 0), .int (Int32.ofInt 0), .int (Int32.ofInt 0), .int (Int32.ofInt 0), .int (Int32.ofInt 0), .int (Int32.ofInt 0), .int (Int32.ofInt 0), .int (Int32.ofInt 0), .long (Int64.ofInt 0), .ref (a + 2), .ref (a + 3), .ref (a + 4), .int (Int32.ofInt 0), .null, .int (Int32.ofInt 0), .null, .null, .null, .null, .null, .null, .int (Int32.ofInt 0), .int (Int32.ofInt 0), .int (Int32.ofInt 0), .int (Int32.ofInt 0), .null]) (v := .ref (a + 5)) (ty := tyX7 15) X hK hS (Nat.le_refl a) rfl hat hinit (by decide) (Nat.le_of_ble_eq_true rfl) (by decide +kernel) rfl (tyX7_ok 15 (by decide)) rfl rfl rfl d45 (fun H locs z1 hat oq hS => ?_)
  have hF := kf_put hF oq
  have hsz : H.size = a + 6 := z1.trans hsz
  have hat : va_at Z.1 vwCl (a, .inr (7, [.int (Int32.ofInt 0), .ref (a + 1), .int (Int32.ofInt 0), .int (Int32.ofInt 0), .int (Int32.ofInt 0), .int (Int32.ofInt 0), .int (Int32.ofInt 0), .int (Int32.ofInt 0), .int (Int32.ofInt 0), .int (Int32.ofInt 0), .long (Int64.ofInt 0), .ref (a + 2), .ref (a + 3), .ref (a + 4), .int (Int32.ofInt 0), .ref (a + 5), .int (Int32.ofInt 0), .null, .null, .null, .null, .null, .null, .int (Int32.ofInt 0), .int (Int32.ofInt 0), .int (Int32.ofInt 0), .int (Int32.ofInt 0), .null])) H := hat
  refine lv_aload_n hx hb d48 rfl (lv_at hlv 0 rfl) ?_
  refine lv_bipush (v := Int32.ofInt ((24 : Nat) : Int)) hx hb d49 (by decide +kernel) ?_
  refine kx_newa (N := 24) (a := a + 6) X hK hS hsz (by omega) (Nat.le_of_ble_eq_true rfl) (Nat.le_of_ble_eq_true rfl) d51 (fun H z1 hn o1 hS => ?_)
  have hat := hat.kept (o1 _ (by show a < a + 6; omega))
  have hF := kf_ext (n := 6) (E := kE_Model0 Z a) hF o1 hn
  have hsz : H.size = a + 7 := z1
  refine kx_put (ci := 7) (k := 17) (idx := 76) (pos := 789) (a := a) (fs := [.int (Int32.ofInt 0), .ref (a + 1), .int (Int32.ofInt 0), .int (Int32.ofInt 0), .int (Int32.ofInt 0), .int (Int32.ofInt 0), .int (Int32.ofInt 0), .int (Int32.ofInt 0), .int (Int32.ofInt 0), .int (Int32.ofInt 0), .long (Int64.ofInt 0), .ref (a + 2), .ref (a + 3), .ref (a + 4), .int (Int32.ofInt 0), .ref (a + 5), .int (Int32.ofInt 0), .null, .null, .null, .null, .null, .null, .int (Int32.ofInt 0), .int (Int32.ofInt 0), .int (Int32.ofInt 0), .int (Int32.ofInt 0), .null]) (v := .ref (a + 6)) (ty := tyX7 17) X hK hS (Nat.le_refl a) rfl hat hinit (by decide) (Nat.le_of_ble_eq_true rfl) (by decide +kernel) rfl (tyX7_ok 17 (by decide)) rfl rfl rfl d53 (fun H locs z1 hat oq hS => ?_)
  have hF := kf_put hF oq
  have hsz : H.size = a + 7 := z1.trans hsz
  have hat : va_at Z.1 vwCl (a, .inr (7, [.int (Int32.ofInt 0), .ref (a + 1), .int (Int32.ofInt 0), .int (Int32.ofInt 0), .int (Int32.ofInt 0), .int (Int32.ofInt 0), .int (Int32.ofInt 0), .int (Int32.ofInt 0), .int (Int32.ofInt 0), .int (Int32.ofInt 0), .long (Int64.ofInt 0), .ref (a + 2), .ref (a + 3), .ref (a + 4), .int (Int32.ofInt 0), .ref (a + 5), .int (Int32.ofInt 0), .ref (a + 6), .null, .null, .null, .null, .null, .int (Int32.ofInt 0), .int (Int32.ofInt 0), .int (Int32.ofInt 0), .int (Int32.ofInt 0), .null])) H := hat
  refine lv_aload_n hx hb d56 rfl (lv_at hlv 0 rfl) ?_
  refine lv_bipush (v := Int32.ofInt ((24 : Nat) : Int)) hx hb d57 (by decide +kernel) ?_
  refine kx_newa (N := 24) (a := a + 7) X hK hS hsz (by omega) (Nat.le_of_ble_eq_true rfl) (Nat.le_of_ble_eq_true rfl) d59 (fun H z1 hn o1 hS => ?_)
  have hat := hat.kept (o1 _ (by show a < a + 7; omega))
  have hF := kf_ext (n := 7) (E := kE_Model0 Z a) hF o1 hn
  have hsz : H.size = a + 8 := z1
  refine kx_put (ci := 7) (k := 18) (idx := 79) (pos := 790) (a := a) (fs := [.int (Int32.ofInt 0), .ref (a + 1), .int (Int32.ofInt 0), .int (Int32.ofInt 0), .int (Int32.ofInt 0), .int (Int32.ofInt 0), .int (Int32.ofInt 0), .int (Int32.ofInt 0), .int (Int32.ofInt 0), .int (Int32.ofInt 0), .long (Int64.ofInt 0), .ref (a + 2), .ref (a + 3), .ref (a + 4), .int (Int32.ofInt 0), .ref (a + 5), .int (Int32.ofInt 0), .ref (a + 6), .null, .null, .null, .null, .null, .int (Int32.ofInt 0), .int (Int32.ofInt 0), .int (Int32.ofInt 0), .int (Int32.ofInt 0), .null]) (v := .ref (a + 7)) (ty := tyX7 18) X hK hS (Nat.le_refl a) rfl hat hinit (by decide) (Nat.le_of_ble_eq_true rfl) (by decide +kernel) rfl (tyX7_ok 18 (by decide)) rfl rfl rfl d61 (fun H locs z1 hat oq hS => ?_)
  have hF := kf_put hF oq
  have hsz : H.size = a + 8 := z1.trans hsz
  have hat : va_at Z.1 vwCl (a, .inr (7, [.int (Int32.ofInt 0), .ref (a + 1), .int (Int32.ofInt 0), .int (Int32.ofInt 0), .int (Int32.ofInt 0), .int (Int32.ofInt 0), .int (Int32.ofInt 0), .int (Int32.ofInt 0), .int (Int32.ofInt 0), .int (Int32.ofInt 0), .long (Int64.ofInt 0), .ref (a + 2), .ref (a + 3), .ref (a + 4), .int (Int32.ofInt 0), .ref (a + 5), .int (Int32.ofInt 0), .ref (a + 6), .ref (a + 7), .null, .null, .null, .null, .int (Int32.ofInt 0), .int (Int32.ofInt 0), .int (Int32.ofInt 0), .int (Int32.ofInt 0), .null])) H := hat
  refine lv_aload_n hx hb d64 rfl (lv_at hlv 0 rfl) ?_
  refine lv_bipush (v := Int32.ofInt ((6 : Nat) : Int)) hx hb d65 (by decide +kernel) ?_
  refine kx_newa (N := 6) (a := a + 8) X hK hS hsz (by omega) (Nat.le_of_ble_eq_true rfl) (Nat.le_of_ble_eq_true rfl) d67 (fun H z1 hn o1 hS => ?_)
  have hat := hat.kept (o1 _ (by show a < a + 8; omega))
  have hF := kf_ext (n := 8) (E := kE_Model0 Z a) hF o1 hn
  have hsz : H.size = a + 9 := z1
  refine kx_put (ci := 7) (k := 19) (idx := 82) (pos := 791) (a := a) (fs := [.int (Int32.ofInt 0), .ref (a + 1), .int (Int32.ofInt 0), .int (Int32.ofInt 0), .int (Int32.ofInt 0), .int (Int32.ofInt 0), .int (Int32.ofInt 0), .int (Int32.ofInt 0), .int (Int32.ofInt 0), .int (Int32.ofInt 0), .long (Int64.ofInt 0), .ref (a + 2), .ref (a + 3), .ref (a + 4), .int (Int32.ofInt 0), .ref (a + 5), .int (Int32.ofInt 0), .ref (a + 6), .ref (a + 7), .null, .null, .null, .null, .int (Int32.ofInt 0), .int (Int32.ofInt 0), .int (Int32.ofInt 0), .int (Int32.ofInt 0), .null]) (v := .ref (a + 8)) (ty := tyX7 19) X hK hS (Nat.le_refl a) rfl hat hinit (by decide) (Nat.le_of_ble_eq_true rfl) (by decide +kernel) rfl (tyX7_ok 19 (by decide)) rfl rfl rfl d69 (fun H locs z1 hat oq hS => ?_)
  have hF := kf_put hF oq
  have hsz : H.size = a + 9 := z1.trans hsz
  have hat : va_at Z.1 vwCl (a, .inr (7, [.int (Int32.ofInt 0), .ref (a + 1), .int (Int32.ofInt 0), .int (Int32.ofInt 0), .int (Int32.ofInt 0), .int (Int32.ofInt 0), .int (Int32.ofInt 0), .int (Int32.ofInt 0), .int (Int32.ofInt 0), .int (Int32.ofInt 0), .long (Int64.ofInt 0), .ref (a + 2), .ref (a + 3), .ref (a + 4), .int (Int32.ofInt 0), .ref (a + 5), .int (Int32.ofInt 0), .ref (a + 6), .ref (a + 7), .ref (a + 8), .null, .null, .null, .int (Int32.ofInt 0), .int (Int32.ofInt 0), .int (Int32.ofInt 0), .int (Int32.ofInt 0), .null])) H := hat
  refine lv_aload_n hx hb d72 rfl (lv_at hlv 0 rfl) ?_
  refine lv_bipush (v := Int32.ofInt ((6 : Nat) : Int)) hx hb d73 (by decide +kernel) ?_
  refine kx_newa (N := 6) (a := a + 9) X hK hS hsz (by omega) (Nat.le_of_ble_eq_true rfl) (Nat.le_of_ble_eq_true rfl) d75 (fun H z1 hn o1 hS => ?_)
  have hat := hat.kept (o1 _ (by show a < a + 9; omega))
  have hF := kf_ext (n := 9) (E := kE_Model0 Z a) hF o1 hn
  have hsz : H.size = a + 10 := z1
  refine kx_put (ci := 7) (k := 20) (idx := 85) (pos := 792) (a := a) (fs := [.int (Int32.ofInt 0), .ref (a + 1), .int (Int32.ofInt 0), .int (Int32.ofInt 0), .int (Int32.ofInt 0), .int (Int32.ofInt 0), .int (Int32.ofInt 0), .int (Int32.ofInt 0), .int (Int32.ofInt 0), .int (Int32.ofInt 0), .long (Int64.ofInt 0), .ref (a + 2), .ref (a + 3), .ref (a + 4), .int (Int32.ofInt 0), .ref (a + 5), .int (Int32.ofInt 0), .ref (a + 6), .ref (a + 7), .ref (a + 8), .null, .null, .null, .int (Int32.ofInt 0), .int (Int32.ofInt 0), .int (Int32.ofInt 0), .int (Int32.ofInt 0), .null]) (v := .ref (a + 9)) (ty := tyX7 20) X hK hS (Nat.le_refl a) rfl hat hinit (by decide) (Nat.le_of_ble_eq_true rfl) (by decide +kernel) rfl (tyX7_ok 20 (by decide)) rfl rfl rfl d77 (fun H locs z1 hat oq hS => ?_)
  have hF := kf_put hF oq
  have hsz : H.size = a + 10 := z1.trans hsz
  have hat : va_at Z.1 vwCl (a, .inr (7, [.int (Int32.ofInt 0), .ref (a + 1), .int (Int32.ofInt 0), .int (Int32.ofInt 0), .int (Int32.ofInt 0), .int (Int32.ofInt 0), .int (Int32.ofInt 0), .int (Int32.ofInt 0), .int (Int32.ofInt 0), .int (Int32.ofInt 0), .long (Int64.ofInt 0), .ref (a + 2), .ref (a + 3), .ref (a + 4), .int (Int32.ofInt 0), .ref (a + 5), .int (Int32.ofInt 0), .ref (a + 6), .ref (a + 7), .ref (a + 8), .ref (a + 9), .null, .null, .int (Int32.ofInt 0), .int (Int32.ofInt 0), .int (Int32.ofInt 0), .int (Int32.ofInt 0), .null])) H := hat
  refine lv_aload_n hx hb d80 rfl (lv_at hlv 0 rfl) ?_
  refine lv_bipush (v := Int32.ofInt ((6 : Nat) : Int)) hx hb d81 (by decide +kernel) ?_
  refine kx_newa (N := 6) (a := a + 10) X hK hS hsz (by omega) (Nat.le_of_ble_eq_true rfl) (Nat.le_of_ble_eq_true rfl) d83 (fun H z1 hn o1 hS => ?_)
  have hat := hat.kept (o1 _ (by show a < a + 10; omega))
  have hF := kf_ext (n := 10) (E := kE_Model0 Z a) hF o1 hn
  have hsz : H.size = a + 11 := z1
  refine kx_put (ci := 7) (k := 21) (idx := 88) (pos := 793) (a := a) (fs := [.int (Int32.ofInt 0), .ref (a + 1), .int (Int32.ofInt 0), .int (Int32.ofInt 0), .int (Int32.ofInt 0), .int (Int32.ofInt 0), .int (Int32.ofInt 0), .int (Int32.ofInt 0), .int (Int32.ofInt 0), .int (Int32.ofInt 0), .long (Int64.ofInt 0), .ref (a + 2), .ref (a + 3), .ref (a + 4), .int (Int32.ofInt 0), .ref (a + 5), .int (Int32.ofInt 0), .ref (a + 6), .ref (a + 7), .ref (a + 8), .ref (a + 9), .null, .null, .int (Int32.ofInt 0), .int (Int32.ofInt 0), .int (Int32.ofInt 0), .int (Int32.ofInt 0), .null]) (v := .ref (a + 10)) (ty := tyX7 21) X hK hS (Nat.le_refl a) rfl hat hinit (by decide) (Nat.le_of_ble_eq_true rfl) (by decide +kernel) rfl (tyX7_ok 21 (by decide)) rfl rfl rfl d85 (fun H locs z1 hat oq hS => ?_)
  have hF := kf_put hF oq
  have hsz : H.size = a + 11 := z1.trans hsz
  have hat : va_at Z.1 vwCl (a, .inr (7, [.int (Int32.ofInt 0), .ref (a + 1), .int (Int32.ofInt 0), .int (Int32.ofInt 0), .int (Int32.ofInt 0), .int (Int32.ofInt 0), .int (Int32.ofInt 0), .int (Int32.ofInt 0), .int (Int32.ofInt 0), .int (Int32.ofInt 0), .long (Int64.ofInt 0), .ref (a + 2), .ref (a + 3), .ref (a + 4), .int (Int32.ofInt 0), .ref (a + 5), .int (Int32.ofInt 0), .ref (a + 6), .ref (a + 7), .ref (a + 8), .ref (a + 9), .ref (a + 10), .null, .int (Int32.ofInt 0), .int (Int32.ofInt 0), .int (Int32.ofInt 0), .int (Int32.ofInt 0), .null])) H := hat
  refine lv_aload_n hx hb d88 rfl (lv_at hlv 0 rfl) ?_
  refine lv_bipush (v := Int32.ofInt ((6 : Nat) : Int)) hx hb d89 (by decide +kernel) ?_
  refine kx_newa (N := 6) (a := a + 11) X hK hS hsz (by omega) (Nat.le_of_ble_eq_true rfl) (Nat.le_of_ble_eq_true rfl) d91 (fun H z1 hn o1 hS => ?_)
  have hat := hat.kept (o1 _ (by show a < a + 11; omega))
  have hF := kf_ext (n := 11) (E := kE_Model0 Z a) hF o1 hn
  have hsz : H.size = a + 12 := z1
  refine kx_put (ci := 7) (k := 22) (idx := 91) (pos := 794) (a := a) (fs := [.int (Int32.ofInt 0), .ref (a + 1), .int (Int32.ofInt 0), .int (Int32.ofInt 0), .int (Int32.ofInt 0), .int (Int32.ofInt 0), .int (Int32.ofInt 0), .int (Int32.ofInt 0), .int (Int32.ofInt 0), .int (Int32.ofInt 0), .long (Int64.ofInt 0), .ref (a + 2), .ref (a + 3), .ref (a + 4), .int (Int32.ofInt 0), .ref (a + 5), .int (Int32.ofInt 0), .ref (a + 6), .ref (a + 7), .ref (a + 8), .ref (a + 9), .ref (a + 10), .null, .int (Int32.ofInt 0), .int (Int32.ofInt 0), .int (Int32.ofInt 0), .int (Int32.ofInt 0), .null]) (v := .ref (a + 11)) (ty := tyX7 22) X hK hS (Nat.le_refl a) rfl hat hinit (by decide) (Nat.le_of_ble_eq_true rfl) (by decide +kernel) rfl (tyX7_ok 22 (by decide)) rfl rfl rfl d93 (fun H locs z1 hat oq hS => ?_)
  have hF := kf_put hF oq
  have hsz : H.size = a + 12 := z1.trans hsz
  have hat : va_at Z.1 vwCl (a, .inr (7, [.int (Int32.ofInt 0), .ref (a + 1), .int (Int32.ofInt 0), .int (Int32.ofInt 0), .int (Int32.ofInt 0), .int (Int32.ofInt 0), .int (Int32.ofInt 0), .int (Int32.ofInt 0), .int (Int32.ofInt 0), .int (Int32.ofInt 0), .long (Int64.ofInt 0), .ref (a + 2), .ref (a + 3), .ref (a + 4), .int (Int32.ofInt 0), .ref (a + 5), .int (Int32.ofInt 0), .ref (a + 6), .ref (a + 7), .ref (a + 8), .ref (a + 9), .ref (a + 10), .ref (a + 11), .int (Int32.ofInt 0), .int (Int32.ofInt 0), .int (Int32.ofInt 0), .int (Int32.ofInt 0), .null])) H := hat
  refine lv_aload_n hx hb d96 rfl (lv_at hlv 0 rfl) ?_
  refine lv_bipush (v := Int32.ofInt ((24 : Nat) : Int)) hx hb d97 (by decide +kernel) ?_
  refine kx_newa (N := 24) (a := a + 12) X hK hS hsz (by omega) (Nat.le_of_ble_eq_true rfl) (Nat.le_of_ble_eq_true rfl) d99 (fun H z1 hn o1 hS => ?_)
  have hat := hat.kept (o1 _ (by show a < a + 12; omega))
  have hF := kf_ext (n := 12) (E := kE_Model0 Z a) hF o1 hn
  have hsz : H.size = a + 13 := z1
  refine kx_put (ci := 7) (k := 27) (idx := 94) (pos := 799) (a := a) (fs := [.int (Int32.ofInt 0), .ref (a + 1), .int (Int32.ofInt 0), .int (Int32.ofInt 0), .int (Int32.ofInt 0), .int (Int32.ofInt 0), .int (Int32.ofInt 0), .int (Int32.ofInt 0), .int (Int32.ofInt 0), .int (Int32.ofInt 0), .long (Int64.ofInt 0), .ref (a + 2), .ref (a + 3), .ref (a + 4), .int (Int32.ofInt 0), .ref (a + 5), .int (Int32.ofInt 0), .ref (a + 6), .ref (a + 7), .ref (a + 8), .ref (a + 9), .ref (a + 10), .ref (a + 11), .int (Int32.ofInt 0), .int (Int32.ofInt 0), .int (Int32.ofInt 0), .int (Int32.ofInt 0), .null]) (v := .ref (a + 12)) (ty := tyX7 27) X hK hS (Nat.le_refl a) rfl hat hinit (by decide) (Nat.le_of_ble_eq_true rfl) (by decide +kernel) rfl (tyX7_ok 27 (by decide)) rfl rfl rfl d101 (fun H locs z1 hat oq hS => ?_)
  have hF := kf_put hF oq
  have hsz : H.size = a + 13 := z1.trans hsz
  have hat : va_at Z.1 vwCl (a, .inr (7, [.int (Int32.ofInt 0), .ref (a + 1), .int (Int32.ofInt 0), .int (Int32.ofInt 0), .int (Int32.ofInt 0), .int (Int32.ofInt 0), .int (Int32.ofInt 0), .int (Int32.ofInt 0), .int (Int32.ofInt 0), .int (Int32.ofInt 0), .long (Int64.ofInt 0), .ref (a + 2), .ref (a + 3), .ref (a + 4), .int (Int32.ofInt 0), .ref (a + 5), .int (Int32.ofInt 0), .ref (a + 6), .ref (a + 7), .ref (a + 8), .ref (a + 9), .ref (a + 10), .ref (a + 11), .int (Int32.ofInt 0), .int (Int32.ofInt 0), .int (Int32.ofInt 0), .int (Int32.ofInt 0), .ref (a + 12)])) H := hat
  refine lv_aload_n hx hb d104 rfl (lv_at hlv 0 rfl) ?_
  refine kx_get (ci := 7) (k := 11) (idx := 64) (pos := 783) (a := a) (fs := [.int (Int32.ofInt 0), .ref (a + 1), .int (Int32.ofInt 0), .int (Int32.ofInt 0), .int (Int32.ofInt 0), .int (Int32.ofInt 0), .int (Int32.ofInt 0), .int (Int32.ofInt 0), .int (Int32.ofInt 0), .int (Int32.ofInt 0), .long (Int64.ofInt 0), .ref (a + 2), .ref (a + 3), .ref (a + 4), .int (Int32.ofInt 0), .ref (a + 5), .int (Int32.ofInt 0), .ref (a + 6), .ref (a + 7), .ref (a + 8), .ref (a + 9), .ref (a + 10), .ref (a + 11), .int (Int32.ofInt 0), .int (Int32.ofInt 0), .int (Int32.ofInt 0), .int (Int32.ofInt 0), .ref (a + 12)]) (v := .ref (a + 2)) X hK rfl hat (by decide) (by decide +kernel) rfl rfl d105 ?_
  have d108 : decode (bc_by 92) 108 = .ok (.invokestatic 97, 3) := by decide +kernel
  refine va_callv (post := fun _ : Unit => True) (B := fun _ t => t.heap.size = a + 13 ∧ va_at Z.1 vwCl (a + 2, kc_now Z) t.heap) (A1 := fun q => q = a + 2) (free := fun q => q = a + 2) (mc := 0) (ms := 0) (rest := []) (va_runS (Ts := bc_GW) (own := (bc_y 92).cls) (nL := 1) (As := [.ref (a + 2)]) ⟨hx, hb, hml, X.2.2.1, X.2.2.2⟩ (kc_clears (r := a + 2) (sz := a + 13)) (va_cwS 1 X.2.2.2 (kc_GS kw_clears (by decide +kernel : bc_inG 769 (.methodLink (bc_y 92).cls 97 (bc_y 93)) = true)) rfl rfl rfl (by decide +kernel) ⟨Nat.le_of_ble_eq_true rfl, Nat.le_of_ble_eq_true rfl⟩) ⟨fun x U g mk q => by obtain ⟨q0, q1, q2, q3⟩ := q; exact ⟨q0, q1, kc_K_same (U := U.calling g mk x) (s := U) rfl q2, q3⟩, fun U hU hW => ⟨rfl, by rw [hU]; exact hsz, kc_K_warm hW hK, by rw [hU]; exact hF 2 (by omega) (by omega)⟩⟩ rfl rfl hlv.1 rfl (lv_room (Nat.zero_le _)) d108 ⟨Nat.le_of_ble_eq_true rfl, Nat.le_of_ble_eq_true rfl⟩) hS (fun q _ hq => Nat.le_trans (Nat.le_add_right a 2) (Nat.le_of_eq (Eq.symm hq))) (fun q hq => Nat.le_trans (Nat.le_add_right a 2) (Nat.le_of_eq (Eq.symm hq))) (fun u t H1 locs1 ht hvm _ hB hz hk hS1 => ?_)
  rw [ht] at hB
  have hat := hat.kept (hk a (by omega) (by omega))
  have hF : ∀ k, 1 ≤ k → k < 13 → va_at Z.1 vwCl (a + k, kE_Model Z a k) H1 := fun k h1 h2 => by
    unfold kE_Model
    by_cases q : k = 2
    · rw [if_pos q, q]; exact hB.2
    · rw [if_neg q]; exact (hF k h1 h2).kept (hk _ (by show a + k < H.size; omega) (by show ¬ a + k = a + 2; omega))
  exact kx_ret X hret hlk hS1 hB.1 hat hF d111
