/-! the constructor of Past; the reference's clears on a new row -/
section Made3
variable {p : Program} {l : Launch} {e : Env} {R : Room} {s : State} {m : MethodId} {args : Array Value} {below : List Frame} {meth : Method} {c : Code} {Q : State → Prop} {Z : bc_ZT} {A : Nat → Prop} {cells slots : Nat} {H : Heap} {locs : List Loc} {ls : Array Slot} {cc : ByteArray} {own : String} {pc : Nat} {rest : List Value}
theorem kx_newq {N a idx pos : Nat} (X : kc_X p s m args c cc own) (hK : kc_K Z s) (hS : va_S A s.heap H locs) (hh : H.size = a) (hN : N < 100000) (hw : bc_inG pos (.classLink own idx "BlockCross$Desk") = true) (hcells : cells + 1 ≤ R.cells) (hslots : slots + N ≤ R.slots) (hdg : decode cc pc = .ok (.anewarray idx, 3))
    (kk : ∀ H1 : Heap, H1.size = a + 1 → va_at Z.1 vwCl (a, .inl (Z.2.2.2.2, N, .inr (.inr (.inr (.inr (fun _ => none)))))) H1 → (∀ q : Nat, q < a → H1[q]? = H[q]?) → va_S A s.heap H1 locs → W p l e R s m args below meth c H1 locs (cells + 1) (slots + N) Q (F0 m (pc + 3) ls (.ref a :: rest))) : W p l e R s m args below meth c H locs cells slots Q (F0 m pc ls (.int (Int32.ofInt (N : Int)) :: rest)) := by
  obtain ⟨hx, hb, hown, hgw⟩ := X
  have hn : ¬ Int32.ofInt (N : Int) < 0 := by
    rw [show (0 : Int32) = Int32.ofInt 0 from rfl, bc_lt ⟨by omega, by omega⟩ ⟨by omega, by omega⟩]; omega
  have hN2 : (Int32.ofInt (N : Int)).toNatClampNeg = N := by rw [bc_cl2 (by omega) (by omega)]; omega
  refine W.anew hx hb hown (hgw _ (bc_inG_mem hw)) (va_AO.use hK.2.2) rfl hdg rfl hn (by rw [hN2]; omega) hcells (by rw [hN2]; exact hslots) fun cA kA comp f1 f2 f3 f4 => ?_
  obtain ⟨kA', comp', -, -, -, g4⟩ := (hK.1.2 2 _ rfl).2
  have hcI : cA = Z.2.2.2.2 := Option.some.inj (f1.symm.trans g4)
  subst hcI
  rw [hN2]
  have z1 : (H.push ({ cls := Z.2.2.2.2, slots := Array.replicate N .null, vm := .none } : Cell)).size = H.size + 1 := Array.size_push ..
  have o1 : ∀ q : Nat, q < H.size → (H.push ({ cls := Z.2.2.2.2, slots := Array.replicate N .null, vm := .none } : Cell))[q]? = H[q]? := fun q hq => by rw [Array.getElem?_push, if_neg (Nat.ne_of_lt hq)]
  subst hh
  refine kk _ z1 ?_ o1 ⟨Nat.le_trans hS.1 (by omega), fun x h1 h2 => (o1 x (by have := hS.1; omega)).trans (hS.2.1 x h1 h2), hS.2.2⟩
  show _ = some (vp_cell _ _)
  rw [vp_cell_q, Array.getElem?_push_size, ← arrV_new]
  rfl
theorem kx_aast {b n v : Nat} {f : Nat → Option Nat} {vs : List Value} {i : Int32} (X : kc_X p s m args c cc own) (hK : kc_K Z s) (hS : va_S A s.heap H locs) (hAa : A b) (hat : va_at Z.1 vwCl (b, .inl (Z.2.2.2.2, n, .inr (.inr (.inr (.inr f))))) H) (hv : va_at Z.1 vwCl (v, .inr (1, vs)) H) (hin : vp_in i n) (hdg : decode cc pc = .ok (.aastore, 1))
    (kk : ∀ (H1 : Heap) (locs1 : List Loc), H1.size = H.size → va_at Z.1 vwCl (b, .inl (Z.2.2.2.2, n, .inr (.inr (.inr (.inr (va_up f i.toNatClampNeg (some v))))))) H1 → (∀ q : Nat, q ≠ b → H1[q]? = H[q]?) → va_S A s.heap H1 locs1 → W p l e R s m args below meth c H1 locs1 cells slots Q (F0 m (pc + 1) ls rest)) : W p l e R s m args below meth c H locs cells slots Q (F0 m pc ls (.ref v :: .int i :: .ref b :: rest)) := by
  obtain ⟨hx, hb, hown, hgw⟩ := X
  have hlt : i.toNatClampNeg < n := Nat.not_le.mp fun q => hin (Or.inr q)
  have h0 : ¬ i < 0 := fun q => hin (Or.inl q)
  obtain ⟨r', hr', cellV, g1, g2, g3, -⟩ := hv
  have hcls := (hK.1.1 1 _ rfl).2
  obtain ⟨kA, comp, k1, k2, k3, -⟩ := (hK.1.2 2 _ rfl).2
  have hcomp : comp = Z.1.1 1 := Option.some.inj (k3.symm.trans hcls.1)
  subst hcomp
  obtain ⟨kC, hkC, -⟩ := hcls.2
  refine W.aast hx hb hat (fun q h => by cases h) (fun h => by cases h) k1 k2 rfl hkC ⟨h0, by show _ < (arrV _ _ _).slots.size; rw [arrV_size]; exact hlt⟩ g1 (fun q h => by rw [g3] at h; cases h) (by rw [g2]; exact hkC) (by rw [g2]; exact va_assign hcls) rfl rfl hdg fun H1 e z oq => ?_
  refine kk H1 _ z ?_ oq (hS.put z oq hAa)
  show H1[b]? = some (vp_cell _ _)
  rw [e]
  rw [vp_cell_q, vp_cell_q, arrV_store]
  congr 2
  funext q
  by_cases hq : q = i.toNatClampNeg
  · subst hq
    simp [updV, va_up, va_rf]
  · simp [updV, va_up, hq]
theorem kx_iast {b n : Nat} {f : Nat → Int32} {i x : Int32} (X : kc_X p s m args c cc own) (hK : kc_K Z s) (hS : va_S A s.heap H locs) (hAa : A b) (hat : va_at Z.1 vwCl (b, .inl (Z.2.2.1, n, .inl f)) H) (hin : vp_in i n) (hdg : decode cc pc = .ok (.iastore, 1))
    (kk : ∀ (H1 : Heap) (locs1 : List Loc), H1.size = H.size → va_at Z.1 vwCl (b, .inl (Z.2.2.1, n, .inl (upd f i.toNatClampNeg x))) H1 → (∀ q : Nat, q ≠ b → H1[q]? = H[q]?) → va_S A s.heap H1 locs1 → W p l e R s m args below meth c H1 locs1 cells slots Q (F0 m (pc + 1) ls rest)) : W p l e R s m args below meth c H locs cells slots Q (F0 m pc ls (.int x :: .int i :: .ref b :: rest)) := by
  obtain ⟨hx, hb, hown, hgw⟩ := X
  refine W.iast hx hb hat ((hK.1.2 0 _ rfl).1 n (fun j => .int (f j))) (fun q => by cases q) (by show ¬ (i < 0 ∨ (arrV _ _ _).slots.size ≤ _); rw [arrV_size]; exact hin) rfl rfl hdg fun H1 e z oq => ?_
  refine kk H1 _ z ?_ oq (hS.put z oq hAa)
  show H1[b]? = some (vp_cell _ _)
  rw [e]
  rw [vp_cell_i, vp_cell_i, arrV_store]
  congr 2
  funext q
  by_cases hq : q = i.toNatClampNeg
  · subst hq
    simp [updV, upd]
  · simp [updV, upd, hq]
def kf_i (a i : Nat) : Nat → Option Nat := fun j => if j < i then some (a + 2 + 9 * j) else none
theorem kf_i_up (a i : Nat) : va_up (kf_i a i) i (some (a + 2 + 9 * i)) = kf_i a (i + 1) := by
  funext j
  unfold va_up kf_i
  by_cases h : j = i
  · subst h; simp
  · by_cases h2 : j < i
    · have : j < i + 1 := by omega
      simp [h, h2, this]
    · have : ¬ j < i + 1 := by omega
      simp [h, h2, this]
def kE_Past (Z : bc_ZT) (a : Nat) : Nat → va_E
  | 0 => .inr (2, [.ref (a + 1), .int (Int32.ofInt 0), .int (Int32.ofInt 0)])
  | 1 => .inl (Z.2.2.2.2, 8, .inr (.inr (.inr (.inr (kf_i a 8)))))
  | k + 2 => kE_Desk Z (a + 2 + 9 * (k / 9)) (k % 9)
theorem kc_past_loop {a : Nat} (X : kc_X p s m args c (bc_by 25) (bc_y 25).cls) (hret : meth.sig.returnType = none) (hlk : meth.locks = false) (hml : c.maxLocals = 2) (hK : kc_K Z s) (hsz0 : s.heap.size = a + 1) : ∀ (f i : Nat), i + f = 8 → ∀ (H : Heap) (locs : List Loc) (ls : Array Slot), lv_has ls 2 [(1, .int (Int32.ofInt (i : Int))), (0, .ref a)] → H.size = a + 2 + 9 * i → va_S (fun q => a ≤ q) s.heap H locs → va_at Z.1 vwCl (a, .inr (2, [.ref (a + 1), .int (Int32.ofInt 0), .int (Int32.ofInt 0)])) H → va_at Z.1 vwCl (a + 1, .inl (Z.2.2.2.2, 8, .inr (.inr (.inr (.inr (kf_i a i)))))) H → (∀ k, k < 9 * i → va_at Z.1 vwCl (a + 2 + k, kE_Past Z a (k + 2)) H) →
    W p l e (kc_rm 1 73 1664) s m args below meth c H locs (1 + 9 * i) (8 + 207 * i) (MQ below (kc_Q Z a 74 (kE_Past Z a)) args s 73 1664 (fun q => a ≤ q)) (F0 m 15 ls []) := by
  have d15 : decode (bc_by 25) 15 = .ok (.iload_n 1, 1) := by decide +kernel
  have d16 : decode (bc_by 25) 16 = .ok (.bipush 8, 2) := by decide +kernel
  have d18 : decode (bc_by 25) 18 = .ok (.if_icmp .ge 22, 3) := by decide +kernel
  have d21 : decode (bc_by 25) 21 = .ok (.aload_n 0, 1) := by decide +kernel
  have d22 : decode (bc_by 25) 22 = .ok (.getfield 11, 3) := by decide +kernel
  have d25 : decode (bc_by 25) 25 = .ok (.iload_n 1, 1) := by decide +kernel
  have d26 : decode (bc_by 25) 26 = .ok (.new 9, 3) := by decide +kernel
  have d29 : decode (bc_by 25) 29 = .ok (.dup, 1) := by decide +kernel
  have d30 : decode (bc_by 25) 30 = .ok (.invokespecial 15, 3) := by decide +kernel
  have d33 : decode (bc_by 25) 33 = .ok (.aastore, 1) := by decide +kernel
  have d34 : decode (bc_by 25) 34 = .ok (.iinc 1 1, 3) := by decide +kernel
  have d37 : decode (bc_by 25) 37 = .ok (.goto (-22), 3) := by decide +kernel
  have d40 : decode (bc_by 25) 40 = .ok (.return_, 1) := by decide +kernel
  have hx := X.1
  have hb := X.2.1
  intro f
  induction f with
  | zero =>
    intro i hi H locs ls hlv hsz hS h0 h1 hD
    have e8 : i = 8 := by omega
    subst e8
    refine lv_iload_n hx hb d15 rfl (lv_at hlv 0 rfl) ?_
    refine lv_bipush (v := Int32.ofInt ((8 : Nat) : Int)) hx hb d16 (by decide +kernel) ?_
    refine lv_icmp_ge (off := 22) (tgt := 40) hx hb d18 (by decide) (fun _ => ?_) (fun q => absurd (by decide +kernel) q)
    refine kx_ret (n := 74) (E := kE_Past Z a) X hret hlk hS hsz h0 (fun k k1 k2 => ?_) d40
    by_cases q : k = 1
    · subst q; exact h1
    · have := hD (k - 2) (by omega)
      have e1 : a + 2 + (k - 2) = a + k := by omega
      have e2 : k - 2 + 2 = k := by omega
      rw [e1, e2] at this
      exact this
  | succ f ih =>
    intro i hi H locs ls hlv hsz hS h0 h1 hD
    refine lv_iload_n hx hb d15 rfl (lv_at hlv 0 rfl) ?_
    refine lv_bipush (v := Int32.ofInt ((8 : Nat) : Int)) hx hb d16 (by decide +kernel) ?_
    refine lv_icmp_ge (off := 22) (tgt := 40) hx hb d18 (by decide) (fun q => absurd ((bc_le (x := ((8 : Nat) : Int)) (y := (i : Int)) ⟨by omega, by omega⟩ ⟨by omega, by omega⟩).mp q) (by omega)) (fun _ => ?_)
    refine lv_aload_n hx hb d21 rfl (lv_at hlv 1 rfl) ?_
    refine kx_get (ci := 2) (k := 0) (idx := 11) (pos := 290) (a := a) (v := .ref (a + 1)) X hK rfl h0 (by decide) (by decide +kernel) rfl rfl d22 ?_
    refine lv_iload_n hx hb d25 rfl (lv_at hlv 0 rfl) ?_
    refine kx_new (ci := 1) (idx := 9) (i1 := 287) (i2 := 149) (i3 := 78) (a := a + 2 + 9 * i) (fs := [.null, .null, .null, .null, .null, .null, .null, .null, .int (Int32.ofInt 0), .int (Int32.ofInt 0), .int (Int32.ofInt 0), .int (Int32.ofInt 0), .int (Int32.ofInt 0), .int (Int32.ofInt 0), .int (Int32.ofInt 0)]) X hK hS rfl hsz (by decide +kernel) (by decide +kernel) (by decide +kernel) (by decide +kernel) (by show 1 + 9 * i + 1 ≤ 73; omega) (by show 8 + 207 * i + 15 ≤ 1664; omega) d26 (fun H1 z1 hn o1 hS1 => ?_)
    refine lv_dup hx hb d29 rfl ?_
    refine kx_call (mi := 11) (d := 0) (mc := 8) (ms := 192) (a := a + 2 + 9 * i) (n := 9) (nL := 2) (np := 0) (idx := 15) (pos := 289) (p1 := 151) (p3 := 78) (vals := []) (rest := [.ref (a + 2 + 9 * i), .int (Int32.ofInt (i : Int)), .ref (a + 1)]) X hK hml hlv.1 hS1 (fun q hq => by omega) z1 hn kc_X1_init kw_X1_init rfl (by decide +kernel) (by decide +kernel) (by decide +kernel) rfl rfl (by decide +kernel) ⟨Nat.le_of_ble_eq_true rfl, Nat.le_of_ble_eq_true rfl⟩ ⟨by show 1 + 9 * i + 1 + 8 ≤ 73; omega, by show 8 + 207 * i + 15 + 192 ≤ 1664; omega⟩ (Nat.le_of_ble_eq_true rfl) d30 (fun H2 locs2 z2 hE2 o2 hS2 => ?_)
    have o12 : ∀ q : Nat, q < a + 2 + 9 * i → H2[q]? = H[q]? := fun q hq => (o2 q hq).trans (o1 q hq)
    have h1' := h1.kept (o12 _ (by show a + 1 < _; omega))
    have h0' := h0.kept (o12 _ (by show a < _; omega))
    have hv0 := hE2 0 (by omega)
    refine kx_aast (n := 8) (i := Int32.ofInt (i : Int)) X hK hS2 (by show a ≤ a + 1; omega) h1' hv0 (bc_in2 (by omega) (by omega) (by omega)) d33 (fun H3 locs3 z3 h3 oq hS3 => ?_)
    have ecl : (Int32.ofInt (i : Int)).toNatClampNeg = i := by rw [bc_cl2 (by omega) (by omega)]; omega
    have h3' : va_at Z.1 vwCl (a + 1, .inl (Z.2.2.2.2, 8, .inr (.inr (.inr (.inr (kf_i a (i + 1))))))) H3 := by
      rw [ecl, kf_i_up] at h3
      exact h3
    have e1 : Int32.ofInt (i : Int) + Int32.ofInt 1 = Int32.ofInt ((i + 1 : Nat) : Int) := by rw [← Int32.ofInt_add]; congr 1
    refine lv_iinc (k := 0) (lv' := [(1, .int (Int32.ofInt ((i + 1 : Nat) : Int))), (0, .ref a)]) hx hb d34 hlv rfl e1 (by decide) rfl (fun ls' hlv' => ?_)
    refine lv_goto (off := -22) (tgt := 15) hx hb d37 (by decide) ?_
    have r := ih (i + 1) (by omega) H3 locs3 ls' hlv' (by rw [z3, z2]; omega) hS3 (h0'.kept (oq _ (by show a ≠ a + 1; omega))) h3' (fun k hk => ?_)
    · rw [show 1 + 9 * i + 1 + 8 = 1 + 9 * (i + 1) by omega, show 8 + 207 * i + 15 + 192 = 8 + 207 * (i + 1) by omega]
      exact r
    · by_cases q : k < 9 * i
      · exact ((hD k q).kept (o12 _ (by show a + 2 + k < _; omega))).kept (oq _ (by show a + 2 + k ≠ a + 1; omega))
      · have hE3 := (hE2 (k - 9 * i) (by omega)).kept (oq _ (by show a + 2 + 9 * i + (k - 9 * i) ≠ a + 1; omega))
        have e2 : a + 2 + 9 * i + (k - 9 * i) = a + 2 + k := by omega
        have e3 : k / 9 = i := by omega
        have e4 : k % 9 = k - 9 * i := by omega
        rw [e2] at hE3
        show va_at Z.1 vwCl (a + 2 + k, kE_Desk Z (a + 2 + 9 * (k / 9)) (k % 9)) H3
        rw [e3, e4]
        exact hE3
set_option maxRecDepth 100000 in
theorem kw_X2_init : Cond.code (bc_y 25) (bc_by 25) (bc_mL 25) (bc_rt 25) ∈ bc_GW := bc_gw (i := 285) rfl rfl
theorem kc_X2_init {l : Launch} {Z : bc_ZT} {a : Nat} : kc_Met l 25 1 73 1664 Z a [] (.inr (2, [.null, .int (Int32.ofInt 0), .int (Int32.ofInt 0)])) 74 (kE_Past Z a) := by
  refine kc_of (by decide +kernel) rfl rfl (Nat.le_of_ble_eq_true rfl) ?_
  intro p e s m below meth c ls X hret hlk hinit hml hlv hsz hK hat
  have hx := X.1
  have hb := X.2.1
  have hS : va_S (fun q => a ≤ q) s.heap s.heap [] := va_S.rf
  have d0 : decode (bc_by 25) 0 = .ok (.aload_n 0, 1) := by decide +kernel
  have d1 : decode (bc_by 25) 1 = .ok (.invokespecial 1, 3) := by decide +kernel
  have d4 : decode (bc_by 25) 4 = .ok (.aload_n 0, 1) := by decide +kernel
  have d5 : decode (bc_by 25) 5 = .ok (.bipush 8, 2) := by decide +kernel
  have d7 : decode (bc_by 25) 7 = .ok (.anewarray 9, 3) := by decide +kernel
  have d10 : decode (bc_by 25) 10 = .ok (.putfield 11, 3) := by decide +kernel
  have d13 : decode (bc_by 25) 13 = .ok (.iconst 0, 1) := by decide +kernel
  have d14 : decode (bc_by 25) 14 = .ok (.istore_n 1, 1) := by decide +kernel
  refine lv_aload_n hx hb d0 rfl (lv_at hlv 0 rfl) ?_
  refine kx_obj (pos := 286) X (hlv.1.trans hml.symm) (by decide +kernel) ⟨Nat.le_of_ble_eq_true rfl, Nat.le_of_ble_eq_true rfl⟩ d1 ?_
  refine lv_aload_n hx hb d4 rfl (lv_at hlv 0 rfl) ?_
  refine lv_bipush (v := Int32.ofInt ((8 : Nat) : Int)) hx hb d5 (by decide +kernel) ?_
  refine kx_newq (N := 8) (a := a + 1) (pos := 287) X hK hS hsz (by omega) (by decide +kernel) (Nat.le_of_ble_eq_true rfl) (Nat.le_of_ble_eq_true rfl) d7 (fun H z1 hn o1 hS => ?_)
  have hat := hat.kept (o1 _ (by show a < a + 1; omega))
  refine kx_put (ci := 2) (k := 0) (idx := 11) (pos := 290) (a := a) (fs := [.null, .int (Int32.ofInt 0), .int (Int32.ofInt 0)]) (v := .ref (a + 1)) (ty := tyX2 0) X hK hS (Nat.le_refl a) rfl hat hinit (by decide) (Nat.le_of_ble_eq_true rfl) (by decide +kernel) rfl (tyX2_ok 0 (by decide)) rfl rfl rfl d10 (fun H2 locs z2 hat oq hS => ?_)
  have hn := hn.kept (oq _ (by show a + 1 ≠ a; omega))
  refine lv_iconst (v := Int32.ofInt ((0 : Nat) : Int)) hx hb d13 rfl ?_
  refine lv_istore_n (nL := 2) (lv' := [(1, .int (Int32.ofInt ((0 : Nat) : Int))), (0, .ref a)]) hx hb d14 rfl hlv (by decide) rfl (fun ls' hlv' => ?_)
  exact kc_past_loop X hret hlk hml hK hsz 8 0 rfl H2 locs ls' hlv' (by rw [z2]; exact z1) hS hat (by
    have e0 : kf_i a 0 = fun _ => none := by funext j; simp [kf_i]
    rw [e0]; exact hn) (fun k hk => by omega)
end Made3
