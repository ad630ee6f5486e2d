/-! the reference's clears on a new row -/
section Made4
variable {p : Program} {l : Launch} {e : Env} {R : Room} {s : State} {m : MethodId} {args : Array Value} {below : List Frame} {meth : Method} {c : Code} {Z : bc_ZT} {cells slots : Nat}
def kc_now (Z : bc_ZT) : va_E := .inl (Z.2.2.1, 223, .inl (fun j => Int32.ofInt (pd_D0 j)))
def kc_QN (Z : bc_ZT) (r sz : Nat) : Array Value → State → Outcome → State → Prop := va_Qv (fun _ : Unit => True) (fun _ t => t.heap.size = sz ∧ va_at Z.1 vwCl (r, kc_now Z) t.heap) (fun q => q = r)
theorem kc_upd0 (k : Nat) : upd (fun _ => Int32.ofInt 0) k (Int32.ofInt 0) = fun _ => Int32.ofInt 0 := by
  funext j
  unfold upd
  split <;> rfl
theorem kc_upd45 : upd (upd (fun _ => Int32.ofInt 0) 4 (Int32.ofInt (-1))) 5 (Int32.ofInt (-1)) = fun j => Int32.ofInt (pd_D0 j) := by
  funext j
  unfold upd pd_D0
  by_cases h5 : j = 5
  · simp [h5]
  · by_cases h4 : j = 4
    · simp [h4]
    · simp [h4, h5]
theorem kc_clears_loop {r sz : Nat} (X : kc_X p s m args c (bc_by 93) (bc_y 93).cls) (hret : meth.sig.returnType = none) (hlk : meth.locks = false) (hK : kc_K Z s) : ∀ (f i : Nat), i + f = 223 → ∀ (H : Heap) (locs : List Loc) (ls : Array Slot), lv_has ls 2 [(1, .int (Int32.ofInt (i : Int))), (0, .ref r)] → H.size = sz → va_S (fun q => q = r) s.heap H locs → va_at Z.1 vwCl (r, kc_A Z 223) H →
    W p l e R s m args below meth c H locs cells slots (MQ below (kc_QN Z r sz) args s cells slots (fun q => q = r)) (F0 m 2 ls []) := by
  have d2 : decode (bc_by 93) 2 = .ok (.iload_n 1, 1) := by decide +kernel
  have d3 : decode (bc_by 93) 3 = .ok (.sipush 223, 3) := by decide +kernel
  have d6 : decode (bc_by 93) 6 = .ok (.if_icmp .ge 13, 3) := by decide +kernel
  have d9 : decode (bc_by 93) 9 = .ok (.aload_n 0, 1) := by decide +kernel
  have d10 : decode (bc_by 93) 10 = .ok (.iload_n 1, 1) := by decide +kernel
  have d11 : decode (bc_by 93) 11 = .ok (.iconst 0, 1) := by decide +kernel
  have d12 : decode (bc_by 93) 12 = .ok (.iastore, 1) := by decide +kernel
  have d13 : decode (bc_by 93) 13 = .ok (.iinc 1 1, 3) := by decide +kernel
  have d16 : decode (bc_by 93) 16 = .ok (.goto (-14), 3) := by decide +kernel
  have d19 : decode (bc_by 93) 19 = .ok (.aload_n 0, 1) := by decide +kernel
  have d20 : decode (bc_by 93) 20 = .ok (.iconst 4, 1) := by decide +kernel
  have d21 : decode (bc_by 93) 21 = .ok (.iconst (-1), 1) := by decide +kernel
  have d22 : decode (bc_by 93) 22 = .ok (.iastore, 1) := by decide +kernel
  have d23 : decode (bc_by 93) 23 = .ok (.aload_n 0, 1) := by decide +kernel
  have d24 : decode (bc_by 93) 24 = .ok (.iconst 5, 1) := by decide +kernel
  have d25 : decode (bc_by 93) 25 = .ok (.iconst (-1), 1) := by decide +kernel
  have d26 : decode (bc_by 93) 26 = .ok (.iastore, 1) := by decide +kernel
  have d27 : decode (bc_by 93) 27 = .ok (.return_, 1) := by decide +kernel
  have hx := X.1
  have hb := X.2.1
  intro f
  induction f with
  | zero =>
    intro i hi H locs ls hlv hsz hS hat
    have e8 : i = 223 := by omega
    subst e8
    refine lv_iload_n hx hb d2 rfl (lv_at hlv 0 rfl) ?_
    refine lv_sipush (v := Int32.ofInt ((223 : Nat) : Int)) hx hb d3 (by decide +kernel) ?_
    refine lv_icmp_ge (off := 13) (tgt := 19) hx hb d6 (by decide) (fun _ => ?_) (fun q => absurd (by decide +kernel) q)
    refine lv_aload_n hx hb d19 rfl (lv_at hlv 1 rfl) ?_
    refine lv_iconst (v := Int32.ofInt ((4 : Nat) : Int)) hx hb d20 rfl ?_
    refine lv_iconst hx hb d21 rfl ?_
    refine kx_iast X hK hS rfl hat (bc_in2 (by omega) (by omega) (by omega)) d22 (fun H1 locs1 z1 h1 oq1 hS1 => ?_)
    refine lv_aload_n hx hb d23 rfl (lv_at hlv 1 rfl) ?_
    refine lv_iconst (v := Int32.ofInt ((5 : Nat) : Int)) hx hb d24 rfl ?_
    refine lv_iconst hx hb d25 rfl ?_
    refine kx_iast X hK hS1 rfl h1 (bc_in2 (by omega) (by omega) (by omega)) d26 (fun H2 locs2 z2 h2 oq2 hS2 => ?_)
    have c4 : (Int32.ofInt ((4 : Nat) : Int)).toNatClampNeg = 4 := by decide +kernel
    have c5 : (Int32.ofInt ((5 : Nat) : Int)).toNatClampNeg = 5 := by decide +kernel
    rw [c4, c5, kc_upd45] at h2
    refine W.vret hx hb hret (fun t ht _ => ⟨⟨(), rfl, trivial, ?_⟩, hS2.F ht⟩) hS2.2.2 d27 hlk
    show t.heap.size = sz ∧ va_at Z.1 vwCl (r, kc_now Z) t.heap
    rw [ht]
    exact ⟨by rw [z2, z1]; exact hsz, h2⟩
  | succ f ih =>
    intro i hi H locs ls hlv hsz hS hat
    refine lv_iload_n hx hb d2 rfl (lv_at hlv 0 rfl) ?_
    refine lv_sipush (v := Int32.ofInt ((223 : Nat) : Int)) hx hb d3 (by decide +kernel) ?_
    refine lv_icmp_ge (off := 13) (tgt := 19) hx hb d6 (by decide) (fun q => absurd ((bc_le (x := ((223 : Nat) : Int)) (y := (i : Int)) ⟨by omega, by omega⟩ ⟨by omega, by omega⟩).mp q) (by omega)) (fun _ => ?_)
    refine lv_aload_n hx hb d9 rfl (lv_at hlv 1 rfl) ?_
    refine lv_iload_n hx hb d10 rfl (lv_at hlv 0 rfl) ?_
    refine lv_iconst hx hb d11 rfl ?_
    refine kx_iast X hK hS rfl hat (bc_in2 (by omega) (by omega) (by omega)) d12 (fun H1 locs1 z1 h1 oq1 hS1 => ?_)
    rw [kc_upd0] at h1
    have e1 : Int32.ofInt (i : Int) + Int32.ofInt 1 = Int32.ofInt ((i + 1 : Nat) : Int) := by rw [← Int32.ofInt_add]; congr 1
    refine lv_iinc (k := 0) (lv' := [(1, .int (Int32.ofInt ((i + 1 : Nat) : Int))), (0, .ref r)]) hx hb d13 hlv rfl e1 (by decide) rfl (fun ls' hlv' => ?_)
    refine lv_goto (off := -14) (tgt := 2) hx hb d16 (by decide) ?_
    exact ih (i + 1) (by omega) H1 locs1 ls' hlv' (z1.trans hsz) hS1 h1
def kc_PreN (Z : bc_ZT) (r sz : Nat) : State → Prop := fun U => U.heap.size = sz ∧ kc_K Z U ∧ va_at Z.1 vwCl (r, kc_A Z 223) U.heap
theorem kc_clears {l : Launch} {Z : bc_ZT} {r sz : Nat} : Met l (bc_y 93) (bc_ws 93) (kc_rm 0 0 0) (va_Pc [.ref r] (kc_PreN Z r sz)) (kc_QN Z r sz) 0 0 (fun q => q = r) := by
  refine Met.ofW (cc := bc_by 93) (maxL := bc_mL 93) (ret := bc_rt 93) (by decide +kernel) rfl ?_
  intro p e s m args' below meth c s₁ B hml hv
  obtain ⟨rfl, hsz, hK, hat⟩ := hv
  have hlv := lv_entry [.ref r] (n := bc_mL 93) (Nat.le_of_ble_eq_true rfl)
  rw [lg_entry_eq]
  have hts := atoms_spec (ws := bc_ws 93) B.pre
  have X : kc_X p s m ([.ref r] : List Value).toArray c (bc_by 93) (bc_y 93).cls := ⟨B.exec, B.bytes, findClass_of_methodNamed B.named, fun w hw => hts w (List.mem_cons_of_mem _ hw)⟩
  have d0 : decode (bc_by 93) 0 = .ok (.iconst 0, 1) := by decide +kernel
  have d1 : decode (bc_by 93) 1 = .ok (.istore_n 1, 1) := by decide +kernel
  refine lv_iconst (v := Int32.ofInt ((0 : Nat) : Int)) X.1 X.2.1 d0 rfl ?_
  refine lv_istore_n (nL := 2) (lv' := [(1, .int (Int32.ofInt ((0 : Nat) : Int))), (0, .ref r)]) X.1 X.2.1 d1 rfl hlv (by decide) rfl (fun ls' hlv' => ?_)
  exact kc_clears_loop X B.returns B.notSynchronized hK 223 0 rfl s.heap [] ls' hlv' hsz va_S.rf hat
end Made4
