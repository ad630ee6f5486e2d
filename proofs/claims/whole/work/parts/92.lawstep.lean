/-! the law's own steps -/
theorem bc_cl2 {i : Int} (h0 : 0 ≤ i) (h1 : i < 100000) : (Int32.ofInt i).toNatClampNeg = i.toNat := by
  show (Int32.ofInt i).toInt.toNat = i.toNat
  rw [Int32.toInt_ofInt_of_le (by omega) (by omega)]
theorem bc_in2 {i : Int} {n : Nat} (h0 : 0 ≤ i) (h1 : i < n) (hn : n < 100000) : vp_in (Int32.ofInt i) n := by
  intro q
  rcases q with q | q
  · have := Int32.lt_iff_toInt_lt.mp q
    rw [Int32.toInt_ofInt_of_le (by omega) (by omega)] at this
    have e : (0 : Int32).toInt = 0 := rfl
    omega
  · rw [bc_cl2 h0 (by omega)] at q
    omega
/-- the law's frame: script, class, reference, out, the place i -/
def lc_L (Z : bc_ZT) (b i : Nat) (ls : Array Slot) : Prop := ls.size = 7 ∧ lv_wf ls ∧ ls[0]? = some (.val (.ref b)) ∧ ls[1]? = some (.val (.ref (Z.2.1 0))) ∧ ls[2]? = some (.val (.ref (Z.2.1 104))) ∧ ls[3]? = some (.val (.ref (Z.2.1 117))) ∧ ls[4]? = some (.val (.int (Int32.ofInt (i : Int))))
def lc_X (p : Program) (s : State) (m : MethodId) (c : Code) (args : Array Value) (b L : Nat) (xs : Nat → Int32) (Z : bc_ZT) (A : Nat → Prop) : Prop :=
  p.tables.exec = Jvm.exec ∧ c.code = code ∧ c.maxLocals = 7 ∧ s.vm.findClass bc_Rlaw = some m.cls ∧ (∀ w ∈ lw_tbl, w.before args s = true) ∧ (∀ q, s.heap.size ≤ q → A q) ∧ bc_WK Z A s s.heap ∧ va_X b L xs s s.heap ∧ b < s.heap.size ∧ ¬ A b ∧ L ≤ 3072
section LawStep
variable {p : Program} {l : Launch} {e : Env} {s : State} {m : MethodId} {args : Array Value} {below : List Frame} {meth : Method} {c : Code} {Q : State → Prop} {b L : Nat} {xs : Nat → Int32} {Z : bc_ZT} {A : Nat → Prop}
/-- from pc of the law, at place i, with this stack and picture, cells and slots used up to now -/
def lc_W (p : Program) (l : Launch) (e : Env) (s : State) (m : MethodId) (args : Array Value) (below : List Frame) (meth : Method) (c : Code) (Q : State → Prop) (b : Nat) (Z : bc_ZT) (A : Nat → Prop) (pc i : Nat) (st : List bc_AV) (h : bc_AH) (cells slots : Nat) : Prop :=
  ∀ (H : Heap) (locs : List Loc) (ls : Array Slot), va_P Z.1 vwCl (bc_WS Z h) H → va_S A s.heap H locs → lc_L Z b i ls → W p l e room_1 s m args below meth c H locs cells slots Q (F0 m pc ls (st.map (bc_cv Z.2.1)))
variable {pc i cells slots : Nat} {st : List bc_AV} {h : bc_AH}
theorem lc_x (C : lc_X p s m c args b L xs Z A) (hd : decode code pc = .ok (.aload_n 1, 1)) (kk : lc_W p l e s m args below meth c Q b Z A (pc + 1) i (.inr (.inr 0) :: st) h cells slots) : lc_W p l e s m args below meth c Q b Z A pc i st h cells slots := by
  intro H locs ls hP hS hL
  exact lv_aload_n C.1 C.2.1 hd rfl hL.2.2.2.1 (kk H locs ls hP hS hL)
theorem lc_m (C : lc_X p s m c args b L xs Z A) (hd : decode code pc = .ok (.aload_n 2, 1)) (kk : lc_W p l e s m args below meth c Q b Z A (pc + 1) i (.inr (.inr 104) :: st) h cells slots) : lc_W p l e s m args below meth c Q b Z A pc i st h cells slots := by
  intro H locs ls hP hS hL
  exact lv_aload_n C.1 C.2.1 hd rfl hL.2.2.2.2.1 (kk H locs ls hP hS hL)
/-- script[i + k] -/
theorem lc_arg (C : lc_X p s m c args b L xs Z A) {k : Nat} (hk : i + k < L) (d0 : decode code pc = .ok (.aload_n 0, 1)) (d1 : decode code (pc + 1) = .ok (.iload 4, 2)) (d2 : decode code (pc + 3) = .ok (.iconst (k : Int), 1)) (d3 : decode code (pc + 4) = .ok (.iadd, 1)) (d4 : decode code (pc + 5) = .ok (.iaload, 1)) (kk : lc_W p l e s m args below meth c Q b Z A (pc + 6) i (.inl (xs (i + k)).toInt :: st) h cells slots) : lc_W p l e s m args below meth c Q b Z A pc i st h cells slots := by
  intro H locs ls hP hS hL
  have hL3 : L ≤ 3072 := C.2.2.2.2.2.2.2.2.2.2
  refine lv_aload_n C.1 C.2.1 d0 rfl hL.2.2.1 ?_
  refine lv_iload C.1 C.2.1 d1 hL.2.2.2.2.2.2 ?_
  refine lv_iconst C.1 C.2.1 d2 rfl ?_
  refine lv_iadd C.1 C.2.1 d3 ?_
  have e1 : Int32.ofInt (i : Int) + Int32.ofInt (k : Int) = Int32.ofInt ((i + k : Nat) : Int) := by rw [← Int32.ofInt_add]; congr 1
  rw [e1]
  refine va_sld C.1 C.2.1 C.2.2.2.2.2.2.2.1 C.2.2.2.2.2.2.2.2.1 C.2.2.2.2.2.2.2.2.2.1 hS (bc_in2 (by omega) (by omega) (by omega)) d4 ?_
  rw [bc_cl2 (by omega) (by omega), Int.toNat_natCast]
  have r := kk H locs ls hP hS hL
  have e2 : bc_cv Z.2.1 (.inl (xs (i + k)).toInt) = .int (xs (i + k)) := by
    show Value.int (Int32.ofInt (xs (i + k)).toInt) = _
    rw [Int32.ofInt_toInt]
  rw [List.map_cons, e2] at r
  exact r
/-- a call: as the arguments, r the receiver -/
theorem lc_call {d idx mj pos r : Nat} {as st' : List bc_AV} {P : Option bc_AV → bc_AH → Prop} (C : lc_X p s m c args b L xs Z A) (hst : st = as.reverse ++ .inr (.inr r) :: st') (hd : decode code pc = .ok (.invokevirtual idx, 3)) (hg : bc_good mj = true) (hw : bc_inG pos (.methodLink bc_Rlaw idx (bc_y mj)) = true) (hlen : as.length = (bc_MT mj).2.2) (hc : (st'.map bc_cat).sum ≤ 8) (hr0 : (bc_lay r).1 = 0) (hr1 : (bc_MT mj).2.1 = (bc_lay r).2.1 + 1) (hcls : (vwCl[(bc_lay r).2.1]?).map (fun q => q.1) = some (bc_y mj).cls) (hd100 : d ≤ 100) (hroomc : cells ≤ 601024 ∧ slots ≤ 7293034)
    (hM : bc_OK d mj (.inr (.inr r) :: as) h P) (hkk : ∀ (ret : Option bc_AV) (h' : bc_AH), P ret h' → lc_W p l e s m args below meth c Q b Z A (pc + 3) i (ret.toList ++ st') h' cells slots) : lc_W p l e s m args below meth c Q b Z A pc i st h cells slots := by
  intro H locs ls hP hS hL
  rw [bc_OK_eq] at hM
  have hst2 : st.map (bc_cv Z.2.1) = (as.map (bc_cv Z.2.1)).reverse ++ .ref (Z.2.1 r) :: st'.map (bc_cv Z.2.1) := by rw [hst]; simp; rfl
  rw [hst2]
  refine bc_l_virtual C.1 C.2.1 C.2.2.1 C.2.2.2.1 C.2.2.2.2.1 C.2.2.2.2.2.1 C.2.2.2.2.2.2.1 hP hS hL.1 hd hg hw hlen (by rw [bc_catsum]; exact hc) hr0 hr1 hcls hd100 hroomc hM (fun ret h' H1 locs1 hp hP1 hS1 => ?_)
  have k := hkk ret h' hp H1 locs1 ls hP1 hS1 hL
  rw [List.map_append] at k
  cases ret <;> exact k
/-- the same number on both sides -/
theorem lc_same (C : lc_X p s m c args b L xs Z A) {x off : Int} {t : Nat} (hd : decode code pc = .ok (.if_icmp .eq off, 3)) (ht : (pc : Int) + off = (t : Int)) (kk : lc_W p l e s m args below meth c Q b Z A t i st h cells slots) : lc_W p l e s m args below meth c Q b Z A pc i (.inl x :: .inl x :: st) h cells slots := by
  intro H locs ls hP hS hL
  exact lv_icmp_eq C.1 C.2.1 hd ht (fun _ => kk H locs ls hP hS hL) (fun q => absurd rfl q)
/-- both calls of a plain case answer x: on to the next place -/
theorem lc_goto (C : lc_X p s m c args b L xs Z A) {off : Int} {t : Nat} (hd : decode code pc = .ok (.goto off, 3)) (ht : (pc : Int) + off = (t : Int)) (kk : lc_W p l e s m args below meth c Q b Z A t i st h cells slots) : lc_W p l e s m args below meth c Q b Z A pc i st h cells slots := by
  intro H locs ls hP hS hL
  exact lv_goto C.1 C.2.1 hd ht (kk H locs ls hP hS hL)
def lc_lv (Z : bc_ZT) (b : Nat) (i : Int32) : List (Nat × Value) := [(4, .int i), (0, .ref b), (1, .ref (Z.2.1 0)), (2, .ref (Z.2.1 104)), (3, .ref (Z.2.1 117))]
theorem lc_L_has {ls : Array Slot} (hL : lc_L Z b i ls) : lv_has ls 7 (lc_lv Z b (Int32.ofInt (i : Int))) := by
  refine ⟨hL.1, hL.2.1, fun q hq => ?_⟩
  unfold lc_lv at hq
  rcases List.mem_cons.mp hq with e | hq
  · rw [e]; exact hL.2.2.2.2.2.2
  · rcases List.mem_cons.mp hq with e | hq
    · rw [e]; exact hL.2.2.1
    · rcases List.mem_cons.mp hq with e | hq
      · rw [e]; exact hL.2.2.2.1
      · rcases List.mem_cons.mp hq with e | hq
        · rw [e]; exact hL.2.2.2.2.1
        · rcases List.mem_cons.mp hq with e | hq
          · rw [e]; exact hL.2.2.2.2.2.1
          · cases hq
theorem lc_has_L {ls : Array Slot} (h : lv_has ls 7 (lc_lv Z b (Int32.ofInt (i : Int)))) : lc_L Z b i ls :=
  ⟨h.1, h.2.1, lv_at h 1 rfl, lv_at h 2 rfl, lv_at h 3 rfl, lv_at h 4 rfl, lv_at h 0 rfl⟩
theorem lc_792 (C : lc_X p s m c args b L xs Z A) (kk : lc_W p l e s m args below meth c Q b Z A 23 (i + 6) [] h cells slots) : lc_W p l e s m args below meth c Q b Z A 792 i [] h cells slots := by
  intro H locs ls hP hS hL
  have e1 : Int32.ofInt (i : Int) + Int32.ofInt 6 = Int32.ofInt ((i + 6 : Nat) : Int) := by rw [← Int32.ofInt_add]; congr 1
  refine lv_iinc (k := 0) (lv' := lc_lv Z b (Int32.ofInt ((i + 6 : Nat) : Int))) C.1 C.2.1 (by decide +kernel) (lc_L_has hL) rfl e1 (by decide) rfl (fun ls' h' => ?_)
  refine lv_goto (off := -772) (tgt := 23) C.1 C.2.1 (by decide +kernel) (by decide) ?_
  exact kk H locs ls' hP hS (lc_has_L h')
end LawStep
