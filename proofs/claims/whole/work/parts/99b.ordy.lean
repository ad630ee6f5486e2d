/-! the contracts of order: the class's, returning or throwing; the law's own -/
abbrev bx_L : List Cond := vx_at0 "BlockCross" 113 "java/util/NoSuchElementException" ["java/lang/RuntimeException", "java/lang/Exception"]
set_option maxRecDepth 100000 in
theorem bx_L_good : bx_L.filter goodWord = [89, 708, 717, 719, 722, 724, 709, 710, 100, 101, 711, 716, 720, 736, 698, 737, 700, 738, 702, 712, 714, 704, 726, 727, 728, 729, 729, 730, 731, 732, 732, 733, 734, 709, 725, 687, 695, 696, 697, 699, 701, 703, 707, 706, 705].filterMap (fun i => lw_tbl[i]?) := rfl
theorem bx_L_in : ∀ w ∈ bx_L.filter goodWord, w ∈ bc_GW := fun w hw => (by
  have h1 := (List.mem_filter.mp hw).2
  rw [bx_L_good] at hw
  obtain ⟨i, -, hi⟩ := List.mem_filterMap.mp hw
  exact List.mem_filter.mpr ⟨List.mem_of_getElem? hi, h1⟩)
set_option maxRecDepth 100000 in
theorem bx_L_bad : bx_L.filter (fun w => !goodWord w) = [.declares ⟨"java/lang/RuntimeException", "<init>", "()V"⟩, .declares ⟨"java/lang/Exception", "<init>", "()V"⟩, .declares ⟨"java/lang/Throwable", "<init>", "()V"⟩, .castable "java/util/NoSuchElementException" "java/util/NoSuchElementException"] := rfl
theorem bx_L_ot : (Cond.classLink "BlockCross" 111 "java/util/NoSuchElementException" :: Cond.initialized "java/util/NoSuchElementException" :: bx_L).all vx_ot = true := by decide +kernel
theorem bx_w1 : bc_inG 686 (.classLink "BlockCross" 111 "java/util/NoSuchElementException") = true ∧ bc_inG 92 (.initialized "java/util/NoSuchElementException") = true := by decide +kernel
theorem bx_hat {A : Nat → Prop} {args : Array Value} {s : State} {H : Heap} {mi : Nat} (hts : ∀ w ∈ bc_ws mi, w.before args s = true) (hT : bx_T A s H) : ∀ w ∈ bx_L, w.before args s = true := by
  refine vx_hat (B := [.declares ⟨"java/lang/RuntimeException", "<init>", "()V"⟩, .declares ⟨"java/lang/Exception", "<init>", "()V"⟩, .declares ⟨"java/lang/Throwable", "<init>", "()V"⟩, .castable "java/util/NoSuchElementException" "java/util/NoSuchElementException"]) (fun w hw => hts w (List.mem_cons_of_mem _ (bx_L_in w hw))) (fun w hw => by rw [bx_L_bad] at hw; exact hw) ?_
  exact vx_c (va_Nw.use rfl hT.1) (vx_c (va_Nw.use rfl hT.2.1) (vx_c (va_Nw.use rfl hT.2.2.1) (vx_c (va_Nw.use rfl hT.2.2.2.1) vx_n)))
def bx_XC (Z : bc_ZT) (sz : Nat) (h : bc_AH) (ok : Bool) : String → State → State → Prop := vx_X (fun _ : Unit => ok = false) (fun E _ t => E = "java/util/NoSuchElementException" ∧ va_P Z.1 vwCl (bc_WS Z h) t.heap) (bc_A Z sz)
def bx_QC (Z : bc_ZT) (sz : Nat) (h : bc_AH) (ok : Bool) (V : Int) : Array Value → State → Outcome → State → Prop := va_Qi (fun r (_ : Unit) => ok = true ∧ r = Int32.ofInt V) (fun _ t => va_P Z.1 vwCl (bc_WS Z h) t.heap) (bc_A Z sz)
theorem bx_lsl : ∀ (vs : List Value), (∀ v ∈ vs, v.category = 1) → (lg_sl vs).length = vs.length := by
  intro vs
  induction vs with
  | nil => intro _; rfl
  | cons a r ih =>
    intro hcs
    have ha : a.category = 1 := hcs a List.mem_cons_self
    have := ih (fun v hv => hcs v (List.mem_cons_of_mem _ hv))
    have e2 : lg_sl (a :: r) = [.val a] ++ lg_sl r := by simp [lg_sl, ha]
    rw [e2, List.length_append, this]
    simp
    omega
theorem ox_order {l : Launch} (hl : l.stackTraces = false) {T D : Nat → Int} {n F o w : Int} {Hs : List (Nat → Int)} {h : bc_AH} (hR : pd_RC T n F D Hs h) (hSV : pd_SV T n F D Hs) (ho : bc_vr o) (hw : bc_vr w) (Z : bc_ZT) (sz : Nat) :
    vx_Met l (bc_y 59) (bc_ws 59) (bx_rm 10) (va_Pc [.ref (Z.2.1 0), .int (Int32.ofInt o), .int (Int32.ofInt w)] (bx_B Z sz h)) (bx_QC Z sz h (pd_ordOK D o w) (pd_ordV D o w)) (bx_XC Z sz h (pd_ordOK D o w)) 1 6 (bc_A Z sz) := by
  have hC := hR.2.2.1
  have hV := hSV.2.2.1.1
  refine vx_ofW (cc := bc_by 59) (maxL := bc_mL 59) (ret := bc_rt 59) (by decide +kernel) rfl ?_
  intro p e s m args' below meth c s₁ B hml hno hv
  obtain ⟨rfl, hsz, hW, hP, hT⟩ := hv
  subst hsz
  have hcat : ∀ v ∈ ([.ref (Z.2.1 0), .int (Int32.ofInt o), .int (Int32.ofInt w)] : List Value), v.category = 1 := by
    intro v hv
    rcases List.mem_cons.mp hv with e | hv
    · rw [e]; rfl
    · rcases List.mem_cons.mp hv with e | hv
      · rw [e]; rfl
      · rcases List.mem_cons.mp hv with e | hv
        · rw [e]; rfl
        · cases hv
  have hlv := lv_entry [.ref (Z.2.1 0), .int (Int32.ofInt o), .int (Int32.ofInt w)] (n := bc_mL 59) (by rw [bx_lsl _ hcat]; exact Nat.le_refl _)
  rw [lg_entry_eq]
  have hX : bc_X 59 p s m ([.ref (Z.2.1 0), .int (Int32.ofInt o), .int (Int32.ofInt w)] : List Value).toArray meth c := ⟨B.exec, B.bytes, hml, B.returns, atoms_spec (ws := bc_ws 59) B.pre, findClass_of_methodNamed B.named, B.notSynchronized⟩
  generalize hlsg : (lg_sl ([.ref (Z.2.1 0), .int (Int32.ofInt o), .int (Int32.ofInt w)] : List Value) ++ List.replicate (bc_mL 59 - (lg_sl ([.ref (Z.2.1 0), .int (Int32.ofInt o), .int (Int32.ofInt w)] : List Value)).length) Slot.unset).toArray = ls at hlv ⊢
  have hL : bc_L Z ls 3 [some (.inr (.inr 0)), some (.inl o), some (.inl w)] := by
    refine ⟨hlv.1, hlv.2.1, fun i v hi => ?_⟩
    have hloc : ([.ref (Z.2.1 0), .int (Int32.ofInt o), .int (Int32.ofInt w)] : List Value)[i]? = some (bc_cv Z.2.1 v) := by
      match i, hi with
      | 0, hi => cases hi; rfl
      | 1, hi => cases hi; rfl
      | 2, hi => cases hi; rfl
    have := bc_lv_argsV _ 0 hcat i _ hloc
    rw [Nat.zero_add] at this
    exact hlv.2.2 (i, bc_cv Z.2.1 v) this
  have hA : ∀ q, s.heap.size ≤ q → bc_A Z s.heap.size q := fun q hq => Or.inr hq
  refine ox_head hX hA hW hP va_S.rf hL hC hV ho hw ⟨Nat.le_of_ble_eq_true rfl, Nat.le_of_ble_eq_true rfl⟩ ⟨Nat.zero_le _, Nat.zero_le _⟩ (fun hk H1 locs1 hP1 hS1 => ?_) (fun hk H1 locs1 hP1 hS1 => ?_)
  · refine ox_mq (ox_tail hC hV ho hw hk p l e s m _ below meth c Z (bc_A Z s.heap.size) H1 locs1 ls hX hA hW hP1 hS1 hL) (fun oc t hq => ?_) (Nat.le_of_ble_eq_true rfl) (Nat.le_of_ble_eq_true rfl) (Nat.zero_le _) (Nat.zero_le _)
    obtain ⟨⟨r, h', e1, ⟨rfl, rfl⟩, hP2⟩, hF⟩ := hq
    exact ⟨⟨Int32.ofInt (pd_ordV D o w), (), e1, ⟨hk, rfl⟩, hP2⟩, hF⟩
  · have d0 : decode (bc_by 59) 21 = .ok (.new 111, 3) := by decide +kernel
    have d3 : decode (bc_by 59) 24 = .ok (.dup, 1) := by decide +kernel
    have d4 : decode (bc_by 59) 25 = .ok (.invokespecial 113, 3) := by decide +kernel
    have d7 : decode (bc_by 59) 28 = .ok (.athrow, 1) := by decide +kernel
    refine vx_throw0 (own := "BlockCross") (cls := "java/util/NoSuchElementException") (names := ["java/lang/RuntimeException", "java/lang/Exception"]) (ik := 111) (ic := 113) (A := bc_A Z s.heap.size) hX.1 hX.2.1 hl hX.2.2.2.2.2.1 (by decide +kernel) (by decide +kernel) (hX.2.2.2.2.1 _ (List.mem_cons_of_mem _ (bc_inG_mem bx_w1.1))) (hX.2.2.2.2.1 _ (List.mem_cons_of_mem _ (bc_inG_mem bx_w1.2))) (bx_hat hX.2.2.2.2.1 hT) (List.all_eq_true.mp bx_L_ot) hT.2.2.2.2.1 hT.2.2.2.2.2 hS1 (by rw [hX.2.2.1]; exact hL.1) d0 d3 d4 d7 (fun x hx => absurd (hno x hx) id) (Nat.le_of_ble_eq_true rfl) (Nat.le_of_ble_eq_true rfl) (Nat.le_of_ble_eq_true rfl) (Nat.le_of_ble_eq_true rfl) hX.2.2.2.2.2.2 (fun t ha hz hq => ?_) hS1.2.2 (Nat.le_refl _) (Nat.le_refl _)
    refine ⟨(), hk, ⟨rfl, hP1.kept (fun k q hq2 => hq _ (vx_lt hP1 hq2))⟩, Nat.le_trans hS1.1 hz, fun q h1 h2 => ?_⟩
    rw [hq q (Nat.lt_of_lt_of_le h1 hS1.1)]
    exact hS1.2.1 q h1 h2
