/-! the constructors (printed by gen_ctor.py) -/
def kE_Tape (Z : bc_ZT) (a : Nat) : Nat → va_E
  | 0 => .inr (5, [.ref (a + 1), .int (Int32.ofInt 0)])
  | _ => kc_A Z 440
def kE_Reader (x : Nat) : Nat → va_E
  | _ => .inr (3, [.ref x, .int (Int32.ofInt 0), .int (Int32.ofInt 0), .int (Int32.ofInt 0), .int (Int32.ofInt 0), .int (Int32.ofInt 0), .int (Int32.ofInt 0)])
def kE_Desk (Z : bc_ZT) (a : Nat) : Nat → va_E
  | 0 => .inr (1, [.ref (a + 1), .ref (a + 2), .ref (a + 3), .ref (a + 4), .ref (a + 5), .ref (a + 6), .ref (a + 7), .ref (a + 8), .int (Int32.ofInt 0), .int (Int32.ofInt 0), .int (Int32.ofInt 0), .int (Int32.ofInt 0), .int (Int32.ofInt (-1)), .int (Int32.ofInt (-1)), .int (Int32.ofInt 0)])
  | _ => kc_A Z 24
def kE_Sums (Z : bc_ZT) (a : Nat) : Nat → va_E
  | 0 => .inr (4, [.ref (a + 1), .ref (a + 2), .ref (a + 3), .ref (a + 4)])
  | 1 => kc_A Z 12
  | 2 => kc_A Z 12
  | _ => kc_A Z 2
def kE_Cross (Z : bc_ZT) (a x : Nat) : Nat → va_E
  | 0 => .inr (0, [.ref x, .ref (a + 1), .ref (a + 6), .ref (a + 7), .int (Int32.ofInt 0), .int (Int32.ofInt (-1)), .int (Int32.ofInt 0), .int (Int32.ofInt 0), .int (Int32.ofInt 0), .int (Int32.ofInt 0)])
  | 1 => kE_Sums Z (a + 1) 0
  | 2 => kc_A Z 12
  | 3 => kc_A Z 12
  | 4 => kc_A Z 2
  | 5 => kc_A Z 2
  | 6 => kc_A Z 10
  | _ => kc_A Z 24
set_option maxRecDepth 100000 in
theorem kw_X5_init : Cond.code (bc_y 49) (bc_by 49) (bc_mL 49) (bc_rt 49) ∈ bc_GW := bc_gw (i := 106) rfl rfl
theorem kc_X5_init {l : Launch} {Z : bc_ZT} {a : Nat} : kc_Met l 49 0 1 440 Z (a) [] (.inr (5, [.null, .int (Int32.ofInt 0)])) 2 (kE_Tape Z a) := by
  refine kc_of (by decide +kernel) rfl rfl (Nat.le_of_ble_eq_true rfl) ?_
  intro p e s m below meth c ls X hret hlk hinit hml hlv hsz hK hat
  have hx := X.1
  have hb := X.2.1
  have hS : va_S (fun q => a ≤ q) s.heap s.heap [] := va_S.rf
  have hF : ∀ k, 1 ≤ k → k < 1 → va_at Z.1 vwCl (a + k, (kE_Tape Z a) k) s.heap := fun k h1 h2 => by omega
  have d0 : decode (bc_by 49) 0 = .ok (.aload_n 0, 1) := by decide +kernel
  have d1 : decode (bc_by 49) 1 = .ok (.invokespecial 3, 3) := by decide +kernel
  have d4 : decode (bc_by 49) 4 = .ok (.aload_n 0, 1) := by decide +kernel
  have d5 : decode (bc_by 49) 5 = .ok (.sipush 440, 3) := by decide +kernel
  have d8 : decode (bc_by 49) 8 = .ok (.newarray .int, 2) := by decide +kernel
  have d10 : decode (bc_by 49) 10 = .ok (.putfield 11, 3) := by decide +kernel
  have d13 : decode (bc_by 49) 13 = .ok (.return_, 1) := by decide +kernel
  refine lv_aload_n hx hb d0 rfl (lv_at hlv 0 rfl) ?_
  refine kx_obj (pos := 107) X (hlv.1.trans hml.symm) (by decide +kernel) ⟨Nat.le_of_ble_eq_true rfl, Nat.le_of_ble_eq_true rfl⟩ d1 ?_
  refine lv_aload_n hx hb d4 rfl (lv_at hlv 0 rfl) ?_
  refine lv_sipush (v := Int32.ofInt ((440 : Nat) : Int)) hx hb d5 (by decide +kernel) ?_
  refine kx_newa (N := 440) (a := a + 1) X hK hS hsz (by omega) (Nat.le_of_ble_eq_true rfl) (Nat.le_of_ble_eq_true rfl) d8 (fun H z1 hn o1 hS => ?_)
  have hat := hat.kept (o1 _ (by show a < a + 1; omega))
  have hF := kf_ext (n := 1) (E := kE_Tape Z a) hF o1 hn
  have hsz : H.size = a + 2 := z1
  refine kx_put (ci := 5) (k := 0) (idx := 11) (pos := 108) (a := a) (fs := [.null, .int (Int32.ofInt 0)]) (v := .ref (a + 1)) (ty := tyX5 0) X hK hS (Nat.le_refl a) rfl hat hinit (by decide) (Nat.le_of_ble_eq_true rfl) (by decide +kernel) rfl (tyX5_ok 0 (by decide)) rfl rfl rfl d10 (fun H locs z1 hat oq hS => ?_)
  have hF := kf_put hF oq
  have hsz : H.size = a + 2 := z1.trans hsz
  have hat : va_at Z.1 vwCl (a, .inr (5, [.ref (a + 1), .int (Int32.ofInt 0)])) H := hat
  exact kx_ret X hret hlk hS hsz hat hF d13
set_option maxRecDepth 100000 in
theorem kw_X3_init : Cond.code (bc_y 29) (bc_by 29) (bc_mL 29) (bc_rt 29) ∈ bc_GW := bc_gw (i := 122) rfl rfl
theorem kc_X3_init {l : Launch} {Z : bc_ZT} {a x : Nat} : kc_Met l 29 0 0 0 Z (a) [.ref x] (.inr (3, [.null, .int (Int32.ofInt 0), .int (Int32.ofInt 0), .int (Int32.ofInt 0), .int (Int32.ofInt 0), .int (Int32.ofInt 0), .int (Int32.ofInt 0)])) 1 (kE_Reader x) := by
  refine kc_of (by decide +kernel) rfl rfl (Nat.le_of_ble_eq_true rfl) ?_
  intro p e s m below meth c ls X hret hlk hinit hml hlv hsz hK hat
  have hx := X.1
  have hb := X.2.1
  have hS : va_S (fun q => a ≤ q) s.heap s.heap [] := va_S.rf
  have hF : ∀ k, 1 ≤ k → k < 1 → va_at Z.1 vwCl (a + k, (kE_Reader x) k) s.heap := fun k h1 h2 => by omega
  have d0 : decode (bc_by 29) 0 = .ok (.aload_n 0, 1) := by decide +kernel
  have d1 : decode (bc_by 29) 1 = .ok (.invokespecial 3, 3) := by decide +kernel
  have d4 : decode (bc_by 29) 4 = .ok (.aload_n 0, 1) := by decide +kernel
  have d5 : decode (bc_by 29) 5 = .ok (.aload_n 1, 1) := by decide +kernel
  have d6 : decode (bc_by 29) 6 = .ok (.putfield 9, 3) := by decide +kernel
  have d9 : decode (bc_by 29) 9 = .ok (.return_, 1) := by decide +kernel
  refine lv_aload_n hx hb d0 rfl (lv_at hlv 0 rfl) ?_
  refine kx_obj (pos := 123) X (hlv.1.trans hml.symm) (by decide +kernel) ⟨Nat.le_of_ble_eq_true rfl, Nat.le_of_ble_eq_true rfl⟩ d1 ?_
  refine lv_aload_n hx hb d4 rfl (lv_at hlv 0 rfl) ?_
  refine lv_aload_n hx hb d5 rfl (lv_at hlv 1 rfl) ?_
  refine kx_put (ci := 3) (k := 0) (idx := 9) (pos := 124) (a := a) (fs := [.null, .int (Int32.ofInt 0), .int (Int32.ofInt 0), .int (Int32.ofInt 0), .int (Int32.ofInt 0), .int (Int32.ofInt 0), .int (Int32.ofInt 0)]) (v := .ref x) (ty := tyX3 0) X hK hS (Nat.le_refl a) rfl hat hinit (by decide) (Nat.le_of_ble_eq_true rfl) (by decide +kernel) rfl (tyX3_ok 0 (by decide)) rfl rfl rfl d6 (fun H locs z1 hat oq hS => ?_)
  have hF := kf_put hF oq
  have hsz : H.size = a + 1 := z1.trans hsz
  have hat : va_at Z.1 vwCl (a, .inr (3, [.ref x, .int (Int32.ofInt 0), .int (Int32.ofInt 0), .int (Int32.ofInt 0), .int (Int32.ofInt 0), .int (Int32.ofInt 0), .int (Int32.ofInt 0)])) H := hat
  exact kx_ret X hret hlk hS hsz hat hF d9
set_option maxRecDepth 100000 in
theorem kw_X1_init : Cond.code (bc_y 11) (bc_by 11) (bc_mL 11) (bc_rt 11) ∈ bc_GW := bc_gw (i := 152) rfl rfl
theorem kc_X1_init {l : Launch} {Z : bc_ZT} {a : Nat} : kc_Met l 11 0 8 192 Z (a) [] (.inr (1, [.null, .null, .null, .null, .null, .null, .null, .null, .int (Int32.ofInt 0), .int (Int32.ofInt 0), .int (Int32.ofInt 0), .int (Int32.ofInt 0), .int (Int32.ofInt 0), .int (Int32.ofInt 0), .int (Int32.ofInt 0)])) 9 (kE_Desk Z a) := by
  refine kc_of (by decide +kernel) rfl rfl (Nat.le_of_ble_eq_true rfl) ?_
  intro p e s m below meth c ls X hret hlk hinit hml hlv hsz hK hat
  have hx := X.1
  have hb := X.2.1
  have hS : va_S (fun q => a ≤ q) s.heap s.heap [] := va_S.rf
  have hF : ∀ k, 1 ≤ k → k < 1 → va_at Z.1 vwCl (a + k, (kE_Desk Z a) k) s.heap := fun k h1 h2 => by omega
  have d0 : decode (bc_by 11) 0 = .ok (.aload_n 0, 1) := by decide +kernel
  have d1 : decode (bc_by 11) 1 = .ok (.invokespecial 3, 3) := by decide +kernel
  have d4 : decode (bc_by 11) 4 = .ok (.aload_n 0, 1) := by decide +kernel
  have d5 : decode (bc_by 11) 5 = .ok (.bipush 24, 2) := by decide +kernel
  have d7 : decode (bc_by 11) 7 = .ok (.newarray .int, 2) := by decide +kernel
  have d9 : decode (bc_by 11) 9 = .ok (.putfield 9, 3) := by decide +kernel
  have d12 : decode (bc_by 11) 12 = .ok (.aload_n 0, 1) := by decide +kernel
  have d13 : decode (bc_by 11) 13 = .ok (.bipush 24, 2) := by decide +kernel
  have d15 : decode (bc_by 11) 15 = .ok (.newarray .int, 2) := by decide +kernel
  have d17 : decode (bc_by 11) 17 = .ok (.putfield 15, 3) := by decide +kernel
  have d20 : decode (bc_by 11) 20 = .ok (.aload_n 0, 1) := by decide +kernel
  have d21 : decode (bc_by 11) 21 = .ok (.bipush 24, 2) := by decide +kernel
  have d23 : decode (bc_by 11) 23 = .ok (.newarray .int, 2) := by decide +kernel
  have d25 : decode (bc_by 11) 25 = .ok (.putfield 18, 3) := by decide +kernel
  have d28 : decode (bc_by 11) 28 = .ok (.aload_n 0, 1) := by decide +kernel
  have d29 : decode (bc_by 11) 29 = .ok (.bipush 24, 2) := by decide +kernel
  have d31 : decode (bc_by 11) 31 = .ok (.newarray .int, 2) := by decide +kernel
  have d33 : decode (bc_by 11) 33 = .ok (.putfield 21, 3) := by decide +kernel
  have d36 : decode (bc_by 11) 36 = .ok (.aload_n 0, 1) := by decide +kernel
  have d37 : decode (bc_by 11) 37 = .ok (.bipush 24, 2) := by decide +kernel
  have d39 : decode (bc_by 11) 39 = .ok (.newarray .int, 2) := by decide +kernel
  have d41 : decode (bc_by 11) 41 = .ok (.putfield 24, 3) := by decide +kernel
  have d44 : decode (bc_by 11) 44 = .ok (.aload_n 0, 1) := by decide +kernel
  have d45 : decode (bc_by 11) 45 = .ok (.bipush 24, 2) := by decide +kernel
  have d47 : decode (bc_by 11) 47 = .ok (.newarray .int, 2) := by decide +kernel
  have d49 : decode (bc_by 11) 49 = .ok (.putfield 27, 3) := by decide +kernel
  have d52 : decode (bc_by 11) 52 = .ok (.aload_n 0, 1) := by decide +kernel
  have d53 : decode (bc_by 11) 53 = .ok (.bipush 24, 2) := by decide +kernel
  have d55 : decode (bc_by 11) 55 = .ok (.newarray .int, 2) := by decide +kernel
  have d57 : decode (bc_by 11) 57 = .ok (.putfield 30, 3) := by decide +kernel
  have d60 : decode (bc_by 11) 60 = .ok (.aload_n 0, 1) := by decide +kernel
  have d61 : decode (bc_by 11) 61 = .ok (.bipush 24, 2) := by decide +kernel
  have d63 : decode (bc_by 11) 63 = .ok (.newarray .int, 2) := by decide +kernel
  have d65 : decode (bc_by 11) 65 = .ok (.putfield 33, 3) := by decide +kernel
  have d68 : decode (bc_by 11) 68 = .ok (.aload_n 0, 1) := by decide +kernel
  have d69 : decode (bc_by 11) 69 = .ok (.iconst (-1), 1) := by decide +kernel
  have d70 : decode (bc_by 11) 70 = .ok (.putfield 36, 3) := by decide +kernel
  have d73 : decode (bc_by 11) 73 = .ok (.aload_n 0, 1) := by decide +kernel
  have d74 : decode (bc_by 11) 74 = .ok (.iconst (-1), 1) := by decide +kernel
  have d75 : decode (bc_by 11) 75 = .ok (.putfield 40, 3) := by decide +kernel
  have d78 : decode (bc_by 11) 78 = .ok (.return_, 1) := by decide +kernel
  refine lv_aload_n hx hb d0 rfl (lv_at hlv 0 rfl) ?_
  refine kx_obj (pos := 153) X (hlv.1.trans hml.symm) (by decide +kernel) ⟨Nat.le_of_ble_eq_true rfl, Nat.le_of_ble_eq_true rfl⟩ d1 ?_
  refine lv_aload_n hx hb d4 rfl (lv_at hlv 0 rfl) ?_
  refine lv_bipush (v := Int32.ofInt ((24 : Nat) : Int)) hx hb d5 (by decide +kernel) ?_
  refine kx_newa (N := 24) (a := a + 1) X hK hS hsz (by omega) (Nat.le_of_ble_eq_true rfl) (Nat.le_of_ble_eq_true rfl) d7 (fun H z1 hn o1 hS => ?_)
  have hat := hat.kept (o1 _ (by show a < a + 1; omega))
  have hF := kf_ext (n := 1) (E := kE_Desk Z a) hF o1 hn
  have hsz : H.size = a + 2 := z1
  refine kx_put (ci := 1) (k := 0) (idx := 9) (pos := 154) (a := a) (fs := [.null, .null, .null, .null, .null, .null, .null, .null, .int (Int32.ofInt 0), .int (Int32.ofInt 0), .int (Int32.ofInt 0), .int (Int32.ofInt 0), .int (Int32.ofInt 0), .int (Int32.ofInt 0), .int (Int32.ofInt 0)]) (v := .ref (a + 1)) (ty := tyX1 0) X hK hS (Nat.le_refl a) rfl hat hinit (by decide) (Nat.le_of_ble_eq_true rfl) (by decide +kernel) rfl (tyX1_ok 0 (by decide)) rfl rfl rfl d9 (fun H locs z1 hat oq hS => ?_)
  have hF := kf_put hF oq
  have hsz : H.size = a + 2 := z1.trans hsz
  have hat : va_at Z.1 vwCl (a, .inr (1, [.ref (a + 1), .null, .null, .null, .null, .null, .null, .null, .int (Int32.ofInt 0), .int (Int32.ofInt 0), .int (Int32.ofInt 0), .int (Int32.ofInt 0), .int (Int32.ofInt 0), .int (Int32.ofInt 0), .int (Int32.ofInt 0)])) H := hat
  refine lv_aload_n hx hb d12 rfl (lv_at hlv 0 rfl) ?_
  refine lv_bipush (v := Int32.ofInt ((24 : Nat) : Int)) hx hb d13 (by decide +kernel) ?_
  refine kx_newa (N := 24) (a := a + 2) X hK hS hsz (by omega) (Nat.le_of_ble_eq_true rfl) (Nat.le_of_ble_eq_true rfl) d15 (fun H z1 hn o1 hS => ?_)
  have hat := hat.kept (o1 _ (by show a < a + 2; omega))
  have hF := kf_ext (n := 2) (E := kE_Desk Z a) hF o1 hn
  have hsz : H.size = a + 3 := z1
  refine kx_put (ci := 1) (k := 1) (idx := 15) (pos := 157) (a := a) (fs := [.ref (a + 1), .null, .null, .null, .null, .null, .null, .null, .int (Int32.ofInt 0), .int (Int32.ofInt 0), .int (Int32.ofInt 0), .int (Int32.ofInt 0), .int (Int32.ofInt 0), .int (Int32.ofInt 0), .int (Int32.ofInt 0)]) (v := .ref (a + 2)) (ty := tyX1 1) X hK hS (Nat.le_refl a) rfl hat hinit (by decide) (Nat.le_of_ble_eq_true rfl) (by decide +kernel) rfl (tyX1_ok 1 (by decide)) rfl rfl rfl d17 (fun H locs z1 hat oq hS => ?_)
  have hF := kf_put hF oq
  have hsz : H.size = a + 3 := z1.trans hsz
  have hat : va_at Z.1 vwCl (a, .inr (1, [.ref (a + 1), .ref (a + 2), .null, .null, .null, .null, .null, .null, .int (Int32.ofInt 0), .int (Int32.ofInt 0), .int (Int32.ofInt 0), .int (Int32.ofInt 0), .int (Int32.ofInt 0), .int (Int32.ofInt 0), .int (Int32.ofInt 0)])) H := hat
  refine lv_aload_n hx hb d20 rfl (lv_at hlv 0 rfl) ?_
  refine lv_bipush (v := Int32.ofInt ((24 : Nat) : Int)) hx hb d21 (by decide +kernel) ?_
  refine kx_newa (N := 24) (a := a + 3) X hK hS hsz (by omega) (Nat.le_of_ble_eq_true rfl) (Nat.le_of_ble_eq_true rfl) d23 (fun H z1 hn o1 hS => ?_)
  have hat := hat.kept (o1 _ (by show a < a + 3; omega))
  have hF := kf_ext (n := 3) (E := kE_Desk Z a) hF o1 hn
  have hsz : H.size = a + 4 := z1
  refine kx_put (ci := 1) (k := 2) (idx := 18) (pos := 160) (a := a) (fs := [.ref (a + 1), .ref (a + 2), .null, .null, .null, .null, .null, .null, .int (Int32.ofInt 0), .int (Int32.ofInt 0), .int (Int32.ofInt 0), .int (Int32.ofInt 0), .int (Int32.ofInt 0), .int (Int32.ofInt 0), .int (Int32.ofInt 0)]) (v := .ref (a + 3)) (ty := tyX1 2) X hK hS (Nat.le_refl a) rfl hat hinit (by decide) (Nat.le_of_ble_eq_true rfl) (by decide +kernel) rfl (tyX1_ok 2 (by decide)) rfl rfl rfl d25 (fun H locs z1 hat oq hS => ?_)
  have hF := kf_put hF oq
  have hsz : H.size = a + 4 := z1.trans hsz
  have hat : va_at Z.1 vwCl (a, .inr (1, [.ref (a + 1), .ref (a + 2), .ref (a + 3), .null, .null, .null, .null, .null, .int (Int32.ofInt 0), .int (Int32.ofInt 0), .int (Int32.ofInt 0), .int (Int32.ofInt 0), .int (Int32.ofInt 0), .int (Int32.ofInt 0), .int (Int32.ofInt 0)])) H := hat
  refine lv_aload_n hx hb d28 rfl (lv_at hlv 0 rfl) ?_
  refine lv_bipush (v := Int32.ofInt ((24 : Nat) : Int)) hx hb d29 (by decide +kernel) ?_
  refine kx_newa (N := 24) (a := a + 4) X hK hS hsz (by omega) (Nat.le_of_ble_eq_true rfl) (Nat.le_of_ble_eq_true rfl) d31 (fun H z1 hn o1 hS => ?_)
  have hat := hat.kept (o1 _ (by show a < a + 4; omega))
  have hF := kf_ext (n := 4) (E := kE_Desk Z a) hF o1 hn
  have hsz : H.size = a + 5 := z1
  refine kx_put (ci := 1) (k := 3) (idx := 21) (pos := 163) (a := a) (fs := [.ref (a + 1), .ref (a + 2), .ref (a + 3), .null, .null, .null, .null, .null, .int (Int32.ofInt 0), .int (Int32.ofInt 0), .int (Int32.ofInt 0), .int (Int32.ofInt 0), .int (Int32.ofInt 0), .int (Int32.ofInt 0), .int (Int32.ofInt 0)]) (v := .ref (a + 4)) (ty := tyX1 3) X hK hS (Nat.le_refl a) rfl hat hinit (by decide) (Nat.le_of_ble_eq_true rfl) (by decide +kernel) rfl (tyX1_ok 3 (by decide)) rfl rfl rfl d33 (fun H locs z1 hat oq hS => ?_)
  have hF := kf_put hF oq
  have hsz : H.size = a + 5 := z1.trans hsz
  have hat : va_at Z.1 vwCl (a, .inr (1, [.ref (a + 1), .ref (a + 2), .ref (a + 3), .ref (a + 4), .null, .null, .null, .null, .int (Int32.ofInt 0), .int (Int32.ofInt 0), .int (Int32.ofInt 0), .int (Int32.ofInt 0), .int (Int32.ofInt 0), .int (Int32.ofInt 0), .int (Int32.ofInt 0)])) H := hat
  refine lv_aload_n hx hb d36 rfl (lv_at hlv 0 rfl) ?_
  refine lv_bipush (v := Int32.ofInt ((24 : Nat) : Int)) hx hb d37 (by decide +kernel) ?_
  refine kx_newa (N := 24) (a := a + 5) X hK hS hsz (by omega) (Nat.le_of_ble_eq_true rfl) (Nat.le_of_ble_eq_true rfl) d39 (fun H z1 hn o1 hS => ?_)
  have hat := hat.kept (o1 _ (by show a < a + 5; omega))
  have hF := kf_ext (n := 5) (E := kE_Desk Z a) hF o1 hn
  have hsz : H.size = a + 6 := z1
  refine kx_put (ci := 1) (k := 4) (idx := 24) (pos := 165) (a := a) (fs := [.ref (a + 1), .ref (a + 2), .ref (a + 3), .ref (a + 4), .null, .null, .null, .null, .int (Int32.ofInt 0), .int (Int32.ofInt 0), .int (Int32.ofInt 0), .int (Int32.ofInt 0), .int (Int32.ofInt 0), .int (Int32.ofInt 0), .int (Int32.ofInt 0)]) (v := .ref (a + 5)) (ty := tyX1 4) X hK hS (Nat.le_refl a) rfl hat hinit (by decide) (Nat.le_of_ble_eq_true rfl) (by decide +kernel) rfl (tyX1_ok 4 (by decide)) rfl rfl rfl d41 (fun H locs z1 hat oq hS => ?_)
  have hF := kf_put hF oq
  have hsz : H.size = a + 6 := z1.trans hsz
  have hat : va_at Z.1 vwCl (a, .inr (1, [.ref (a + 1), .ref (a + 2), .ref (a + 3), .ref (a + 4), .ref (a + 5), .null, .null, .null, .int (Int32.ofInt 0), .int (Int32.ofInt 0), .int (Int32.ofInt 0), .int (Int32.ofInt 0), .int (Int32.ofInt 0), .int (Int32.ofInt 0), .int (Int32.ofInt 0)])) H := hat
  refine lv_aload_n hx hb d44 rfl (lv_at hlv 0 rfl) ?_
  refine lv_bipush (v := Int32.ofInt ((24 : Nat) : Int)) hx hb d45 (by decide +kernel) ?_
  refine kx_newa (N := 24) (a := a + 6) X hK hS hsz (by omega) (Nat.le_of_ble_eq_true rfl) (Nat.le_of_ble_eq_true rfl) d47 (fun H z1 hn o1 hS => ?_)
  have hat := hat.kept (o1 _ (by show a < a + 6; omega))
  have hF := kf_ext (n := 6) (E := kE_Desk Z a) hF o1 hn
  have hsz : H.size = a + 7 := z1
  refine kx_put (ci := 1) (k := 5) (idx := 27) (pos := 168) (a := a) (fs := [.ref (a + 1), .ref (a + 2), .ref (a + 3), .ref (a + 4), .ref (a + 5), .null, .null, .null, .int (Int32.ofInt 0), .int (Int32.ofInt 0), .int (Int32.ofInt 0), .int (Int32.ofInt 0), .int (Int32.ofInt 0), .int (Int32.ofInt 0), .int (Int32.ofInt 0)]) (v := .ref (a + 6)) (ty := tyX1 5) X hK hS (Nat.le_refl a) rfl hat hinit (by decide) (Nat.le_of_ble_eq_true rfl) (by decide +kernel) rfl (tyX1_ok 5 (by decide)) rfl rfl rfl d49 (fun H locs z1 hat oq hS => ?_)
  have hF := kf_put hF oq
  have hsz : H.size = a + 7 := z1.trans hsz
  have hat : va_at Z.1 vwCl (a, .inr (1, [.ref (a + 1), .ref (a + 2), .ref (a + 3), .ref (a + 4), .ref (a + 5), .ref (a + 6), .null, .null, .int (Int32.ofInt 0), .int (Int32.ofInt 0), .int (Int32.ofInt 0), .int (Int32.ofInt 0), .int (Int32.ofInt 0), .int (Int32.ofInt 0), .int (Int32.ofInt 0)])) H := hat
  refine lv_aload_n hx hb d52 rfl (lv_at hlv 0 rfl) ?_
  refine lv_bipush (v := Int32.ofInt ((24 : Nat) : Int)) hx hb d53 (by decide +kernel) ?_
  refine kx_newa (N := 24) (a := a + 7) X hK hS hsz (by omega) (Nat.le_of_ble_eq_true rfl) (Nat.le_of_ble_eq_true rfl) d55 (fun H z1 hn o1 hS => ?_)
  have hat := hat.kept (o1 _ (by show a < a + 7; omega))
  have hF := kf_ext (n := 7) (E := kE_Desk Z a) hF o1 hn
  have hsz : H.size = a + 8 := z1
  refine kx_put (ci := 1) (k := 6) (idx := 30) (pos := 170) (a := a) (fs := [.ref (a + 1), .ref (a + 2), .ref (a + 3), .ref (a + 4), .ref (a + 5), .ref (a + 6), .null, .null, .int (Int32.ofInt 0), .int (Int32.ofInt 0), .int (Int32.ofInt 0), .int (Int32.ofInt 0), .int (Int32.ofInt 0), .int (Int32.ofInt 0), .int (Int32.ofInt 0)]) (v := .ref (a + 7)) (ty := tyX1 6) X hK hS (Nat.le_refl a) rfl hat hinit (by decide) (Nat.le_of_ble_eq_true rfl) (by decide +kernel) rfl (tyX1_ok 6 (by decide)) rfl rfl rfl d57 (fun H locs z1 hat oq hS => ?_)
  have hF := kf_put hF oq
  have hsz : H.size = a + 8 := z1.trans hsz
  have hat : va_at Z.1 vwCl (a, .inr (1, [.ref (a + 1), .ref (a + 2), .ref (a + 3), .ref (a + 4), .ref (a + 5), .ref (a + 6), .ref (a + 7), .null, .int (Int32.ofInt 0), .int (Int32.ofInt 0), .int (Int32.ofInt 0), .int (Int32.ofInt 0), .int (Int32.ofInt 0), .int (Int32.ofInt 0), .int (Int32.ofInt 0)])) H := hat
  refine lv_aload_n hx hb d60 rfl (lv_at hlv 0 rfl) ?_
  refine lv_bipush (v := Int32.ofInt ((24 : Nat) : Int)) hx hb d61 (by decide +kernel) ?_
  refine kx_newa (N := 24) (a := a + 8) X hK hS hsz (by omega) (Nat.le_of_ble_eq_true rfl) (Nat.le_of_ble_eq_true rfl) d63 (fun H z1 hn o1 hS => ?_)
  have hat := hat.kept (o1 _ (by show a < a + 8; omega))
  have hF := kf_ext (n := 8) (E := kE_Desk Z a) hF o1 hn
  have hsz : H.size = a + 9 := z1
  refine kx_put (ci := 1) (k := 7) (idx := 33) (pos := 172) (a := a) (fs := [.ref (a + 1), .ref (a + 2), .ref (a + 3), .ref (a + 4), .ref (a + 5), .ref (a + 6), .ref (a + 7), .null, .int (Int32.ofInt 0), .int (Int32.ofInt 0), .int (Int32.ofInt 0), .int (Int32.ofInt 0), .int (Int32.ofInt 0), .int (Int32.ofInt 0), .int (Int32.ofInt 0)]) (v := .ref (a + 8)) (ty := tyX1 7) X hK hS (Nat.le_refl a) rfl hat hinit (by decide) (Nat.le_of_ble_eq_true rfl) (by decide +kernel) rfl (tyX1_ok 7 (by decide)) rfl rfl rfl d65 (fun H locs z1 hat oq hS => ?_)
  have hF := kf_put hF oq
  have hsz : H.size = a + 9 := z1.trans hsz
  have hat : va_at Z.1 vwCl (a, .inr (1, [.ref (a + 1), .ref (a + 2), .ref (a + 3), .ref (a + 4), .ref (a + 5), .ref (a + 6), .ref (a + 7), .ref (a + 8), .int (Int32.ofInt 0), .int (Int32.ofInt 0), .int (Int32.ofInt 0), .int (Int32.ofInt 0), .int (Int32.ofInt 0), .int (Int32.ofInt 0), .int (Int32.ofInt 0)])) H := hat
  refine lv_aload_n hx hb d68 rfl (lv_at hlv 0 rfl) ?_
  refine lv_iconst hx hb d69 rfl ?_
  refine kx_put (ci := 1) (k := 12) (idx := 36) (pos := 185) (a := a) (fs := [.ref (a + 1), .ref (a + 2), .ref (a + 3), .ref (a + 4), .ref (a + 5), .ref (a + 6), .ref (a + 7), .ref (a + 8), .int (Int32.ofInt 0), .int (Int32.ofInt 0), .int (Int32.ofInt 0), .int (Int32.ofInt 0), .int (Int32.ofInt 0), .int (Int32.ofInt 0), .int (Int32.ofInt 0)]) (v := .int (Int32.ofInt (-1))) (ty := tyX1 12) X hK hS (Nat.le_refl a) rfl hat hinit (by decide) (Nat.le_of_ble_eq_true rfl) (by decide +kernel) rfl (tyX1_ok 12 (by decide)) rfl rfl rfl d70 (fun H locs z1 hat oq hS => ?_)
  have hF := kf_put hF oq
  have hsz : H.size = a + 9 := z1.trans hsz
  have hat : va_at Z.1 vwCl (a, .inr (1, [.ref (a + 1), .ref (a + 2), .ref (a + 3), .ref (a + 4), .ref (a + 5), .ref (a + 6), .ref (a + 7), .ref (a + 8), .int (Int32.ofInt 0), .int (Int32.ofInt 0), .int (Int32.ofInt 0), .int (Int32.ofInt 0), .int (Int32.ofInt (-1)), .int (Int32.ofInt 0), .int (Int32.ofInt 0)])) H := hat
  refine lv_aload_n hx hb d73 rfl (lv_at hlv 0 rfl) ?_
  refine lv_iconst hx hb d74 rfl ?_
  refine kx_put (ci := 1) (k := 13) (idx := 40) (pos := 187) (a := a) (fs := [.ref (a + 1), .ref (a + 2), .ref (a + 3), .ref (a + 4), .ref (a + 5), .ref (a + 6), .ref (a + 7), .ref (a + 8), .int (Int32.ofInt 0), .int (Int32.ofInt 0), .int (Int32.ofInt 0), .int (Int32.ofInt 0), .int (Int32.ofInt (-1)), .int (Int32.ofInt 0), .int (Int32.ofInt 0)]) (v := .int (Int32.ofInt (-1))) (ty := tyX1 13) X hK hS (Nat.le_refl a) rfl hat hinit (by decide) (Nat.le_of_ble_eq_true rfl) (by decide +kernel) rfl (tyX1_ok 13 (by decide)) rfl rfl rfl d75 (fun H locs z1 hat oq hS => ?_)
  have hF := kf_put hF oq
  have hsz : H.size = a + 9 := z1.trans hsz
  have hat : va_at Z.1 vwCl (a, .inr (1, [.ref (a + 1), .ref (a + 2), .ref (a + 3), .ref (a + 4), .ref (a + 5), .ref (a + 6), .ref (a + 7), .ref (a + 8), .int (Int32.ofInt 0), .int (Int32.ofInt 0), .int (Int32.ofInt 0), .int (Int32.ofInt 0), .int (Int32.ofInt (-1)), .int (Int32.ofInt (-1)), .int (Int32.ofInt 0)])) H := hat
  exact kx_ret X hret hlk hS hsz hat hF d78
set_option maxRecDepth 100000 in
theorem kw_X4_init : Cond.code (bc_y 42) (bc_by 42) (bc_mL 42) (bc_rt 42) ∈ bc_GW := bc_gw (i := 232) rfl rfl
theorem kc_X4_init {l : Launch} {Z : bc_ZT} {a : Nat} : kc_Met l 42 0 4 28 Z (a) [] (.inr (4, [.null, .null, .null, .null])) 5 (kE_Sums Z a) := by
  refine kc_of (by decide +kernel) rfl rfl (Nat.le_of_ble_eq_true rfl) ?_
  intro p e s m below meth c ls X hret hlk hinit hml hlv hsz hK hat
  have hx := X.1
  have hb := X.2.1
  have hS : va_S (fun q => a ≤ q) s.heap s.heap [] := va_S.rf
  have hF : ∀ k, 1 ≤ k → k < 1 → va_at Z.1 vwCl (a + k, (kE_Sums Z a) k) s.heap := fun k h1 h2 => by omega
  have d0 : decode (bc_by 42) 0 = .ok (.aload_n 0, 1) := by decide +kernel
  have d1 : decode (bc_by 42) 1 = .ok (.invokespecial 3, 3) := by decide +kernel
  have d4 : decode (bc_by 42) 4 = .ok (.aload_n 0, 1) := by decide +kernel
  have d5 : decode (bc_by 42) 5 = .ok (.bipush 12, 2) := by decide +kernel
  have d7 : decode (bc_by 42) 7 = .ok (.newarray .int, 2) := by decide +kernel
  have d9 : decode (bc_by 42) 9 = .ok (.putfield 9, 3) := by decide +kernel
  have d12 : decode (bc_by 42) 12 = .ok (.aload_n 0, 1) := by decide +kernel
  have d13 : decode (bc_by 42) 13 = .ok (.bipush 12, 2) := by decide +kernel
  have d15 : decode (bc_by 42) 15 = .ok (.newarray .int, 2) := by decide +kernel
  have d17 : decode (bc_by 42) 17 = .ok (.putfield 15, 3) := by decide +kernel
  have d20 : decode (bc_by 42) 20 = .ok (.aload_n 0, 1) := by decide +kernel
  have d21 : decode (bc_by 42) 21 = .ok (.iconst 2, 1) := by decide +kernel
  have d22 : decode (bc_by 42) 22 = .ok (.newarray .int, 2) := by decide +kernel
  have d24 : decode (bc_by 42) 24 = .ok (.putfield 18, 3) := by decide +kernel
  have d27 : decode (bc_by 42) 27 = .ok (.aload_n 0, 1) := by decide +kernel
  have d28 : decode (bc_by 42) 28 = .ok (.iconst 2, 1) := by decide +kernel
  have d29 : decode (bc_by 42) 29 = .ok (.newarray .int, 2) := by decide +kernel
  have d31 : decode (bc_by 42) 31 = .ok (.putfield 21, 3) := by decide +kernel
  have d34 : decode (bc_by 42) 34 = .ok (.return_, 1) := by decide +kernel
  refine lv_aload_n hx hb d0 rfl (lv_at hlv 0 rfl) ?_
  refine kx_obj (pos := 233) X (hlv.1.trans hml.symm) (by decide +kernel) ⟨Nat.le_of_ble_eq_true rfl, Nat.le_of_ble_eq_true rfl⟩ d1 ?_
  refine lv_aload_n hx hb d4 rfl (lv_at hlv 0 rfl) ?_
  refine lv_bipush (v := Int32.ofInt ((12 : Nat) : Int)) hx hb d5 (by decide +kernel) ?_
  refine kx_newa (N := 12) (a := a + 1) X hK hS hsz (by omega) (Nat.le_of_ble_eq_true rfl) (Nat.le_of_ble_eq_true rfl) d7 (fun H z1 hn o1 hS => ?_)
  have hat := hat.kept (o1 _ (by show a < a + 1; omega))
  have hF := kf_ext (n := 1) (E := kE_Sums Z a) hF o1 hn
  have hsz : H.size = a + 2 := z1
  refine kx_put (ci := 4) (k := 0) (idx := 9) (pos := 234) (a := a) (fs := [.null, .null, .null, .null]) (v := .ref (a + 1)) (ty := tyX4 0) X hK hS (Nat.le_refl a) rfl hat hinit (by decide) (Nat.le_of_ble_eq_true rfl) (by decide +kernel) rfl (tyX4_ok 0 (by decide)) rfl rfl rfl d9 (fun H locs z1 hat oq hS => ?_)
  have hF := kf_put hF oq
  have hsz : H.size = a + 2 := z1.trans hsz
  have hat : va_at Z.1 vwCl (a, .inr (4, [.ref (a + 1), .null, .null, .null])) H := hat
  refine lv_aload_n hx hb d12 rfl (lv_at hlv 0 rfl) ?_
  refine lv_bipush (v := Int32.ofInt ((12 : Nat) : Int)) hx hb d13 (by decide +kernel) ?_
  refine kx_newa (N := 12) (a := a + 2) X hK hS hsz (by omega) (Nat.le_of_ble_eq_true rfl) (Nat.le_of_ble_eq_true rfl) d15 (fun H z1 hn o1 hS => ?_)
  have hat := hat.kept (o1 _ (by show a < a + 2; omega))
  have hF := kf_ext (n := 2) (E := kE_Sums Z a) hF o1 hn
  have hsz : H.size = a + 3 := z1
  refine kx_put (ci := 4) (k := 1) (idx := 15) (pos := 235) (a := a) (fs := [.ref (a + 1), .null, .null, .null]) (v := .ref (a + 2)) (ty := tyX4 1) X hK hS (Nat.le_refl a) rfl hat hinit (by decide) (Nat.le_of_ble_eq_true rfl) (by decide +kernel) rfl (tyX4_ok 1 (by decide)) rfl rfl rfl d17 (fun H locs z1 hat oq hS => ?_)
  have hF := kf_put hF oq
  have hsz : H.size = a + 3 := z1.trans hsz
  have hat : va_at Z.1 vwCl (a, .inr (4, [.ref (a + 1), .ref (a + 2), .null, .null])) H := hat
  refine lv_aload_n hx hb d20 rfl (lv_at hlv 0 rfl) ?_
  refine lv_iconst (v := Int32.ofInt ((2 : Nat) : Int)) hx hb d21 rfl ?_
  refine kx_newa (N := 2) (a := a + 3) X hK hS hsz (by omega) (Nat.le_of_ble_eq_true rfl) (Nat.le_of_ble_eq_true rfl) d22 (fun H z1 hn o1 hS => ?_)
  have hat := hat.kept (o1 _ (by show a < a + 3; omega))
  have hF := kf_ext (n := 3) (E := kE_Sums Z a) hF o1 hn
  have hsz : H.size = a + 4 := z1
  refine kx_put (ci := 4) (k := 2) (idx := 18) (pos := 236) (a := a) (fs := [.ref (a + 1), .ref (a + 2), .null, .null]) (v := .ref (a + 3)) (ty := tyX4 2) X hK hS (Nat.le_refl a) rfl hat hinit (by decide) (Nat.le_of_ble_eq_true rfl) (by decide +kernel) rfl (tyX4_ok 2 (by decide)) rfl rfl rfl d24 (fun H locs z1 hat oq hS => ?_)
  have hF := kf_put hF oq
  have hsz : H.size = a + 4 := z1.trans hsz
  have hat : va_at Z.1 vwCl (a, .inr (4, [.ref (a + 1), .ref (a + 2), .ref (a + 3), .null])) H := hat
  refine lv_aload_n hx hb d27 rfl (lv_at hlv 0 rfl) ?_
  refine lv_iconst (v := Int32.ofInt ((2 : Nat) : Int)) hx hb d28 rfl ?_
  refine kx_newa (N := 2) (a := a + 4) X hK hS hsz (by omega) (Nat.le_of_ble_eq_true rfl) (Nat.le_of_ble_eq_true rfl) d29 (fun H z1 hn o1 hS => ?_)
  have hat := hat.kept (o1 _ (by show a < a + 4; omega))
  have hF := kf_ext (n := 4) (E := kE_Sums Z a) hF o1 hn
  have hsz : H.size = a + 5 := z1
  refine kx_put (ci := 4) (k := 3) (idx := 21) (pos := 237) (a := a) (fs := [.ref (a + 1), .ref (a + 2), .ref (a + 3), .null]) (v := .ref (a + 4)) (ty := tyX4 3) X hK hS (Nat.le_refl a) rfl hat hinit (by decide) (Nat.le_of_ble_eq_true rfl) (by decide +kernel) rfl (tyX4_ok 3 (by decide)) rfl rfl rfl d31 (fun H locs z1 hat oq hS => ?_)
  have hF := kf_put hF oq
  have hsz : H.size = a + 5 := z1.trans hsz
  have hat : va_at Z.1 vwCl (a, .inr (4, [.ref (a + 1), .ref (a + 2), .ref (a + 3), .ref (a + 4)])) H := hat
  exact kx_ret X hret hlk hS hsz hat hF d34
set_option maxRecDepth 100000 in
theorem kw_X0_init : Cond.code (bc_y 0) (bc_by 0) (bc_mL 0) (bc_rt 0) ∈ bc_GW := bc_gw (i := 226) rfl rfl
theorem kc_X0_init {l : Launch} {Z : bc_ZT} {a x : Nat} : kc_Met l 0 1 7 66 Z (a) [.ref x] (.inr (0, [.null, .null, .null, .null, .int (Int32.ofInt 0), .int (Int32.ofInt 0), .int (Int32.ofInt 0), .int (Int32.ofInt 0), .int (Int32.ofInt 0), .int (Int32.ofInt 0)])) 8 (kE_Cross Z a x) := by
  refine kc_of (by decide +kernel) rfl rfl (Nat.le_of_ble_eq_true rfl) ?_
  intro p e s m below meth c ls X hret hlk hinit hml hlv hsz hK hat
  have hx := X.1
  have hb := X.2.1
  have hS : va_S (fun q => a ≤ q) s.heap s.heap [] := va_S.rf
  have hF : ∀ k, 1 ≤ k → k < 1 → va_at Z.1 vwCl (a + k, (kE_Cross Z a x) k) s.heap := fun k h1 h2 => by omega
  have d0 : decode (bc_by 0) 0 = .ok (.aload_n 0, 1) := by decide +kernel
  have d1 : decode (bc_by 0) 1 = .ok (.invokespecial 3, 3) := by decide +kernel
  have d4 : decode (bc_by 0) 4 = .ok (.aload_n 0, 1) := by decide +kernel
  have d5 : decode (bc_by 0) 5 = .ok (.new 9, 3) := by decide +kernel
  have d8 : decode (bc_by 0) 8 = .ok (.dup, 1) := by decide +kernel
  have d9 : decode (bc_by 0) 9 = .ok (.invokespecial 11, 3) := by decide +kernel
  have d12 : decode (bc_by 0) 12 = .ok (.putfield 12, 3) := by decide +kernel
  have d15 : decode (bc_by 0) 15 = .ok (.aload_n 0, 1) := by decide +kernel
  have d16 : decode (bc_by 0) 16 = .ok (.bipush 10, 2) := by decide +kernel
  have d18 : decode (bc_by 0) 18 = .ok (.newarray .int, 2) := by decide +kernel
  have d20 : decode (bc_by 0) 20 = .ok (.putfield 18, 3) := by decide +kernel
  have d23 : decode (bc_by 0) 23 = .ok (.aload_n 0, 1) := by decide +kernel
  have d24 : decode (bc_by 0) 24 = .ok (.bipush 24, 2) := by decide +kernel
  have d26 : decode (bc_by 0) 26 = .ok (.newarray .int, 2) := by decide +kernel
  have d28 : decode (bc_by 0) 28 = .ok (.putfield 22, 3) := by decide +kernel
  have d31 : decode (bc_by 0) 31 = .ok (.aload_n 0, 1) := by decide +kernel
  have d32 : decode (bc_by 0) 32 = .ok (.iconst (-1), 1) := by decide +kernel
  have d33 : decode (bc_by 0) 33 = .ok (.putfield 25, 3) := by decide +kernel
  have d36 : decode (bc_by 0) 36 = .ok (.aload_n 0, 1) := by decide +kernel
  have d37 : decode (bc_by 0) 37 = .ok (.aload_n 1, 1) := by decide +kernel
  have d38 : decode (bc_by 0) 38 = .ok (.putfield 29, 3) := by decide +kernel
  have d41 : decode (bc_by 0) 41 = .ok (.return_, 1) := by decide +kernel
  refine lv_aload_n hx hb d0 rfl (lv_at hlv 0 rfl) ?_
  refine kx_obj (pos := 227) X (hlv.1.trans hml.symm) (by decide +kernel) ⟨Nat.le_of_ble_eq_true rfl, Nat.le_of_ble_eq_true rfl⟩ d1 ?_
  refine lv_aload_n hx hb d4 rfl (lv_at hlv 0 rfl) ?_
  refine kx_new (ci := 4) (idx := 9) (i1 := 228) (i2 := 229) (i3 := 80) (a := a + 1) (fs := [.null, .null, .null, .null]) X hK hS rfl hsz (by decide +kernel) (by decide +kernel) (by decide +kernel) (by decide +kernel) (Nat.le_of_ble_eq_true rfl) (Nat.le_of_ble_eq_true rfl) d5 (fun H z1 hn o1 hS => ?_)
  have hat := hat.kept (o1 _ (by show a < a + 1; omega))
  have hF := kf_old hF o1
  have hsz : H.size = a + 1 + 1 := z1
  refine lv_dup hx hb d8 rfl ?_
  refine kx_call (mi := 42) (d := 0) (mc := 4) (ms := 28) (a := a + 1) (n := 5) (nL := 2) (np := 0) (idx := 11) (pos := 230) (p1 := 231) (p3 := 80) (vals := []) (rest := [.ref (a + 1), .ref a]) X hK hml hlv.1 hS (fun q hq => by omega) hsz hn (kc_X4_init) kw_X4_init rfl (by decide +kernel) (by decide +kernel) (by decide +kernel) rfl rfl (by decide +kernel) ⟨Nat.le_of_ble_eq_true rfl, Nat.le_of_ble_eq_true rfl⟩ ⟨Nat.le_of_ble_eq_true rfl, Nat.le_of_ble_eq_true rfl⟩ (Nat.le_of_ble_eq_true rfl) d9 (fun H locs z1 hEn o1 hS => ?_)
  have hat := hat.kept (o1 _ (by show a < a + 1; omega))
  have hF := kf_call (n := 1) (j := 5) (E := kE_Cross Z a x) hF o1 hEn (fun k hk => match k, hk with | 0, _ => rfl | 1, _ => rfl | 2, _ => rfl | 3, _ => rfl | 4, _ => rfl | k + 5, h => absurd h (by omega))
  have hsz : H.size = a + 6 := z1
  refine kx_put (ci := 0) (k := 1) (idx := 12) (pos := 248) (a := a) (fs := [.null, .null, .null, .null, .int (Int32.ofInt 0), .int (Int32.ofInt 0), .int (Int32.ofInt 0), .int (Int32.ofInt 0), .int (Int32.ofInt 0), .int (Int32.ofInt 0)]) (v := .ref (a + 1)) (ty := tyX0 1) X hK hS (Nat.le_refl a) rfl hat hinit (by decide) (Nat.le_of_ble_eq_true rfl) (by decide +kernel) rfl (tyX0_ok 1 (by decide)) rfl rfl rfl d12 (fun H locs z1 hat oq hS => ?_)
  have hF := kf_put hF oq
  have hsz : H.size = a + 6 := z1.trans hsz
  have hat : va_at Z.1 vwCl (a, .inr (0, [.null, .ref (a + 1), .null, .null, .int (Int32.ofInt 0), .int (Int32.ofInt 0), .int (Int32.ofInt 0), .int (Int32.ofInt 0), .int (Int32.ofInt 0), .int (Int32.ofInt 0)])) H := hat
  refine lv_aload_n hx hb d15 rfl (lv_at hlv 0 rfl) ?_
  refine lv_bipush (v := Int32.ofInt ((10 : Nat) : Int)) hx hb d16 (by decide +kernel) ?_
  refine kx_newa (N := 10) (a := a + 6) X hK hS hsz (by omega) (Nat.le_of_ble_eq_true rfl) (Nat.le_of_ble_eq_true rfl) d18 (fun H z1 hn o1 hS => ?_)
  have hat := hat.kept (o1 _ (by show a < a + 6; omega))
  have hF := kf_ext (n := 6) (E := kE_Cross Z a x) hF o1 hn
  have hsz : H.size = a + 7 := z1
  refine kx_put (ci := 0) (k := 2) (idx := 18) (pos := 249) (a := a) (fs := [.null, .ref (a + 1), .null, .null, .int (Int32.ofInt 0), .int (Int32.ofInt 0), .int (Int32.ofInt 0), .int (Int32.ofInt 0), .int (Int32.ofInt 0), .int (Int32.ofInt 0)]) (v := .ref (a + 6)) (ty := tyX0 2) X hK hS (Nat.le_refl a) rfl hat hinit (by decide) (Nat.le_of_ble_eq_true rfl) (by decide +kernel) rfl (tyX0_ok 2 (by decide)) rfl rfl rfl d20 (fun H locs z1 hat oq hS => ?_)
  have hF := kf_put hF oq
  have hsz : H.size = a + 7 := z1.trans hsz
  have hat : va_at Z.1 vwCl (a, .inr (0, [.null, .ref (a + 1), .ref (a + 6), .null, .int (Int32.ofInt 0), .int (Int32.ofInt 0), .int (Int32.ofInt 0), .int (Int32.ofInt 0), .int (Int32.ofInt 0), .int (Int32.ofInt 0)])) H := hat
  refine lv_aload_n hx hb d23 rfl (lv_at hlv 0 rfl) ?_
  refine lv_bipush (v := Int32.ofInt ((24 : Nat) : Int)) hx hb d24 (by decide +kernel) ?_
  refine kx_newa (N := 24) (a := a + 7) X hK hS hsz (by omega) (Nat.le_of_ble_eq_true rfl) (Nat.le_of_ble_eq_true rfl) d26 (fun H z1 hn o1 hS => ?_)
  have hat := hat.kept (o1 _ (by show a < a + 7; omega))
  have hF := kf_ext (n := 7) (E := kE_Cross Z a x) hF o1 hn
  have hsz : H.size = a + 8 := z1
  refine kx_put (ci := 0) (k := 3) (idx := 22) (pos := 250) (a := a) (fs := [.null, .ref (a + 1), .ref (a + 6), .null, .int (Int32.ofInt 0), .int (Int32.ofInt 0), .int (Int32.ofInt 0), .int (Int32.ofInt 0), .int (Int32.ofInt 0), .int (Int32.ofInt 0)]) (v := .ref (a + 7)) (ty := tyX0 3) X hK hS (Nat.le_refl a) rfl hat hinit (by decide) (Nat.le_of_ble_eq_true rfl) (by decide +kernel) rfl (tyX0_ok 3 (by decide)) rfl rfl rfl d28 (fun H locs z1 hat oq hS => ?_)
  have hF := kf_put hF oq
  have hsz : H.size = a + 8 := z1.trans hsz
  have hat : va_at Z.1 vwCl (a, .inr (0, [.null, .ref (a + 1), .ref (a + 6), .ref (a + 7), .int (Int32.ofInt 0), .int (Int32.ofInt 0), .int (Int32.ofInt 0), .int (Int32.ofInt 0), .int (Int32.ofInt 0), .int (Int32.ofInt 0)])) H := hat
  refine lv_aload_n hx hb d31 rfl (lv_at hlv 0 rfl) ?_
  refine lv_iconst hx hb d32 rfl ?_
  refine kx_put (ci := 0) (k := 5) (idx := 25) (pos := 253) (a := a) (fs := [.null, .ref (a + 1), .ref (a + 6), .ref (a + 7), .int (Int32.ofInt 0), .int (Int32.ofInt 0), .int (Int32.ofInt 0), .int (Int32.ofInt 0), .int (Int32.ofInt 0), .int (Int32.ofInt 0)]) (v := .int (Int32.ofInt (-1))) (ty := tyX0 5) X hK hS (Nat.le_refl a) rfl hat hinit (by decide) (Nat.le_of_ble_eq_true rfl) (by decide +kernel) rfl (tyX0_ok 5 (by decide)) rfl rfl rfl d33 (fun H locs z1 hat oq hS => ?_)
  have hF := kf_put hF oq
  have hsz : H.size = a + 8 := z1.trans hsz
  have hat : va_at Z.1 vwCl (a, .inr (0, [.null, .ref (a + 1), .ref (a + 6), .ref (a + 7), .int (Int32.ofInt 0), .int (Int32.ofInt (-1)), .int (Int32.ofInt 0), .int (Int32.ofInt 0), .int (Int32.ofInt 0), .int (Int32.ofInt 0)])) H := hat
  refine lv_aload_n hx hb d36 rfl (lv_at hlv 0 rfl) ?_
  refine lv_aload_n hx hb d37 rfl (lv_at hlv 1 rfl) ?_
  refine kx_put (ci := 0) (k := 0) (idx := 29) (pos := 247) (a := a) (fs := [.null, .ref (a + 1), .ref (a + 6), .ref (a + 7), .int (Int32.ofInt 0), .int (Int32.ofInt (-1)), .int (Int32.ofInt 0), .int (Int32.ofInt 0), .int (Int32.ofInt 0), .int (Int32.ofInt 0)]) (v := .ref x) (ty := tyX0 0) X hK hS (Nat.le_refl a) rfl hat hinit (by decide) (Nat.le_of_ble_eq_true rfl) (by decide +kernel) rfl (tyX0_ok 0 (by decide)) rfl rfl rfl d38 (fun H locs z1 hat oq hS => ?_)
  have hF := kf_put hF oq
  have hsz : H.size = a + 8 := z1.trans hsz
  have hat : va_at Z.1 vwCl (a, .inr (0, [.ref x, .ref (a + 1), .ref (a + 6), .ref (a + 7), .int (Int32.ofInt 0), .int (Int32.ofInt (-1)), .int (Int32.ofInt 0), .int (Int32.ofInt 0), .int (Int32.ofInt 0), .int (Int32.ofInt 0)])) H := hat
  exact kx_ret X hret hlk hS hsz hat hF d41
