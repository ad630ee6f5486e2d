/-! ONE LEMMA AN INSTRUCTION, over bc_ATr -/
def bc_vr (x : Int) : Prop := -2147483648 ≤ x ∧ x ≤ 2147483647
def bc_vl (x : Int) : Prop := -9223372036854775808 ≤ x ∧ x ≤ 9223372036854775807
theorem bc_ti {x : Int} (h : bc_vr x) : (Int32.ofInt x).toInt = x := by
  unfold bc_vr at h
  exact Int32.toInt_ofInt_of_le (by omega) (by omega)
theorem bc_tl {x : Int} (h : bc_vl x) : (Int64.ofInt x).toInt = x := by
  unfold bc_vl at h
  exact Int64.toInt_ofInt_of_le (by omega) (by omega)
theorem bc_eq {x y : Int} (hx : bc_vr x) (hy : bc_vr y) : Int32.ofInt x = Int32.ofInt y ↔ x = y := by
  constructor
  · intro h
    rw [← bc_ti hx, ← bc_ti hy, h]
  · intro h
    rw [h]
theorem bc_lt {x y : Int} (hx : bc_vr x) (hy : bc_vr y) : Int32.ofInt x < Int32.ofInt y ↔ x < y := by
  rw [Int32.lt_iff_toInt_lt, bc_ti hx, bc_ti hy]
theorem bc_le {x y : Int} (hx : bc_vr x) (hy : bc_vr y) : Int32.ofInt x ≤ Int32.ofInt y ↔ x ≤ y := by
  rw [Int32.le_iff_toInt_le, bc_ti hx, bc_ti hy]
theorem bc_in {i : Int} {n : Nat} (h0 : 0 ≤ i) (h1 : i < n) (hn : n < 2000) : vp_in (Int32.ofInt i) n := by
  rw [vp_in_iff, bc_ti ⟨by omega, by omega⟩]
  exact ⟨h0, h1⟩
theorem bc_cl {i : Int} (h0 : 0 ≤ i) (h1 : i < 2000) : (Int32.ofInt i).toNatClampNeg = i.toNat := by
  show (Int32.ofInt i).toInt.toNat = i.toNat
  rw [bc_ti ⟨by omega, by omega⟩]
-- int functions that are not homomorphic: by the machine's own
def bc_and (x y : Int) : Int := (Int32.ofInt x &&& Int32.ofInt y).toInt
def bc_or (x y : Int) : Int := (Int32.ofInt x ||| Int32.ofInt y).toInt
def bc_xor (x y : Int) : Int := (Int32.ofInt x ^^^ Int32.ofInt y).toInt
def bc_shl (x y : Int) : Int := (Int32.ofInt x <<< (Int32.ofInt y &&& 31)).toInt
def bc_shr (x y : Int) : Int := (Int32.ofInt x >>> (Int32.ofInt y &&& 31)).toInt
def bc_ushr (x y : Int) : Int := ((Int32.ofInt x).toUInt32 >>> ((Int32.ofInt y).toUInt32 &&& Int32.toUInt32 31)).toInt32.toInt
section Steps
variable {d mi : Nat} {post : Option bc_AV → bc_AH → Prop} {pc : Nat} {loc : List (Option bc_AV)} {st : List bc_AV} {h : bc_AH}
theorem bc_go {pc' : Nat} {st' : List bc_AV} (hn : bc_ATr d mi post pc' loc st' h)
    (k : ∀ (p : Program) (l : Launch) (e : Env) (R : Room) (s : State) (m : MethodId) (args : Array Value) (below : List Frame) (meth : Method) (c : Code) (H : Heap) (locs : List Loc) (cells slots : Nat) (Q : State → Prop) (ls : Array Slot) (ad : Nat → Nat), p.tables.exec = Jvm.exec → c.code = bc_by mi → s.vm.findClass (bc_y mi).cls = some m.cls → (∀ w ∈ bc_ws mi, w.before args s = true) →
      W p l e R s m args below meth c H locs cells slots Q (F0 m pc' ls (st'.map (bc_cv ad))) → W p l e R s m args below meth c H locs cells slots Q (F0 m pc ls (st.map (bc_cv ad)))) : bc_ATr d mi post pc loc st h := by
  intro p l e s m args below meth c Z A H locs ls hX hA hW hP hS hL
  exact k p l e _ s m args below meth c H locs 0 0 _ ls Z.2.1 hX.1 hX.2.1 hX.2.2.2.2.2.1 hX.2.2.2.2.1 (hn p l e s m args below meth c Z A H locs ls hX hA hW hP hS hL)
theorem bc_s_iconst {n : Int} (hd : decode (bc_by mi) pc = .ok (.iconst n, 1)) (hn : bc_ATr d mi post (pc + 1) loc (.inl n :: st) h) : bc_ATr d mi post pc loc st h :=
  bc_go hn (fun _ _ _ _ _ _ _ _ _ _ _ _ _ _ _ _ _ hx hb _ _ w => lv_iconst hx hb hd rfl w)
theorem bc_s_bipush {n : Int} (hd : decode (bc_by mi) pc = .ok (.bipush n, 2)) (h1 : -128 ≤ n) (h2 : n ≤ 127) (hn : bc_ATr d mi post (pc + 2) loc (.inl n :: st) h) : bc_ATr d mi post pc loc st h :=
  bc_go hn (fun _ _ _ _ _ _ _ _ _ _ _ _ _ _ _ _ _ hx hb _ _ w => lv_bipush hx hb hd (by
    apply Int32.toInt_inj.mp
    rw [Int8.toInt_toInt32, Int8.toInt_ofInt_of_le (by omega) (by omega), bc_ti ⟨by omega, by omega⟩]) w)
theorem bc_s_sipush {n : Int} (hd : decode (bc_by mi) pc = .ok (.sipush n, 3)) (h1 : -32768 ≤ n) (h2 : n ≤ 32767) (hn : bc_ATr d mi post (pc + 3) loc (.inl n :: st) h) : bc_ATr d mi post pc loc st h :=
  bc_go hn (fun _ _ _ _ _ _ _ _ _ _ _ _ _ _ _ _ _ hx hb _ _ w => lv_sipush hx hb hd (by
    apply Int32.toInt_inj.mp
    rw [Int16.toInt_toInt32, Int16.toInt_ofInt_of_le (by omega) (by omega), bc_ti ⟨by omega, by omega⟩]) w)
theorem bc_s_lconst {n : Fin 2} (hd : decode (bc_by mi) pc = .ok (.lconst n, 1)) (hn : bc_ATr d mi post (pc + 1) loc (.inr (.inl ((n : Nat) : Int)) :: st) h) : bc_ATr d mi post pc loc st h :=
  bc_go hn (fun _ _ _ _ _ _ _ _ _ _ _ _ _ _ _ _ _ hx hb _ _ w => lv_lconst hx hb hd rfl w)
theorem bc_s_ldcw {i v : Nat} (hd : decode (bc_by mi) pc = .ok (.ldc_w i, 3)) (hw : Cond.constant (bc_y mi).cls i (Int32.ofInt (v : Int)) ∈ bc_GW) (hn : bc_ATr d mi post (pc + 3) loc (.inl ((v : Nat) : Int) :: st) h) : bc_ATr d mi post pc loc st h :=
  bc_go hn (fun _ _ _ _ _ _ _ _ _ _ _ _ _ _ _ _ _ hx hb ho ht w => lv_ldcw hx hb ho (ht _ (List.mem_cons_of_mem _ hw)) hd w)
theorem bc_s_ldc2 {i v : Nat} (hd : decode (bc_by mi) pc = .ok (.ldc2_w i, 3)) (hw : Cond.constantLong (bc_y mi).cls i (Int64.ofInt (v : Int)) ∈ bc_GW) (hn : bc_ATr d mi post (pc + 3) loc (.inr (.inl ((v : Nat) : Int)) :: st) h) : bc_ATr d mi post pc loc st h :=
  bc_go hn (fun _ _ _ _ _ _ _ _ _ _ _ _ _ _ _ _ _ hx hb ho ht w => lv_ldc2 hx hb ho (ht _ (List.mem_cons_of_mem _ hw)) hd w)
theorem bc_s_iadd {x y : Int} (hd : decode (bc_by mi) pc = .ok (.iadd, 1)) (hn : bc_ATr d mi post (pc + 1) loc (.inl (x + y) :: st) h) : bc_ATr d mi post pc loc (.inl y :: .inl x :: st) h :=
  bc_go hn (fun _ _ _ _ _ _ _ _ _ _ _ _ _ _ _ _ _ hx hb _ _ w => lv_iadd hx hb hd (by rw [← Int32.ofInt_add]; exact w))
theorem bc_s_isub {x y : Int} (hd : decode (bc_by mi) pc = .ok (.isub, 1)) (hn : bc_ATr d mi post (pc + 1) loc (.inl (x - y) :: st) h) : bc_ATr d mi post pc loc (.inl y :: .inl x :: st) h :=
  bc_go hn (fun _ _ _ _ _ _ _ _ _ _ _ _ _ _ _ _ _ hx hb _ _ w => lv_isub hx hb hd (by rw [← Int32.ofInt_sub]; exact w))
theorem bc_s_imul {x y : Int} (hd : decode (bc_by mi) pc = .ok (.imul, 1)) (hn : bc_ATr d mi post (pc + 1) loc (.inl (x * y) :: st) h) : bc_ATr d mi post pc loc (.inl y :: .inl x :: st) h :=
  bc_go hn (fun _ _ _ _ _ _ _ _ _ _ _ _ _ _ _ _ _ hx hb _ _ w => lv_imul hx hb hd (by rw [← Int32.ofInt_mul]; exact w))
theorem bc_s_ladd {x y : Int} (hd : decode (bc_by mi) pc = .ok (.ladd, 1)) (hn : bc_ATr d mi post (pc + 1) loc (.inr (.inl (x + y)) :: st) h) : bc_ATr d mi post pc loc (.inr (.inl y) :: .inr (.inl x) :: st) h :=
  bc_go hn (fun _ _ _ _ _ _ _ _ _ _ _ _ _ _ _ _ _ hx hb _ _ w => lv_ladd hx hb hd (by rw [← Int64.ofInt_add]; exact w))
theorem bc_s_lsub {x y : Int} (hd : decode (bc_by mi) pc = .ok (.lsub, 1)) (hn : bc_ATr d mi post (pc + 1) loc (.inr (.inl (x - y)) :: st) h) : bc_ATr d mi post pc loc (.inr (.inl y) :: .inr (.inl x) :: st) h :=
  bc_go hn (fun _ _ _ _ _ _ _ _ _ _ _ _ _ _ _ _ _ hx hb _ _ w => lv_lsub hx hb hd (by rw [← Int64.ofInt_sub]; exact w))
theorem bc_s_lmul {x y : Int} (hd : decode (bc_by mi) pc = .ok (.lmul, 1)) (hn : bc_ATr d mi post (pc + 1) loc (.inr (.inl (x * y)) :: st) h) : bc_ATr d mi post pc loc (.inr (.inl y) :: .inr (.inl x) :: st) h :=
  bc_go hn (fun _ _ _ _ _ _ _ _ _ _ _ _ _ _ _ _ _ hx hb _ _ w => lv_lmul hx hb hd (by rw [← Int64.ofInt_mul]; exact w))
theorem bc_s_i2l {x : Int} (hd : decode (bc_by mi) pc = .ok (.i2l, 1)) (hv : bc_vr x) (hn : bc_ATr d mi post (pc + 1) loc (.inr (.inl x) :: st) h) : bc_ATr d mi post pc loc (.inl x :: st) h :=
  bc_go hn (fun _ _ _ _ _ _ _ _ _ _ _ _ _ _ _ _ _ hx hb _ _ w => lv_i2l hx hb hd (by
    apply Int64.toInt_inj.mp
    rw [Int32.toInt_toInt64, bc_ti hv, bc_tl (by unfold bc_vr at hv; exact ⟨by omega, by omega⟩)]) w)
theorem bc_s_lcmp {x y : Int} (hd : decode (bc_by mi) pc = .ok (.lcmp, 1)) (hx : bc_vl x) (hy : bc_vl y) (hn : bc_ATr d mi post (pc + 1) loc (.inl (if x < y then -1 else if x = y then 0 else 1) :: st) h) : bc_ATr d mi post pc loc (.inr (.inl y) :: .inr (.inl x) :: st) h :=
  bc_go hn (fun _ _ _ _ _ _ _ _ _ _ _ _ _ _ _ _ _ hx' hb _ _ w => W.lcmp hx' hb hd (by
    have e : lg_cmp (Int64.ofInt x) (Int64.ofInt y) = Int32.ofInt (if x < y then -1 else if x = y then 0 else 1) := by
      have h1 : Int64.ofInt x < Int64.ofInt y ↔ x < y := by rw [Int64.lt_iff_toInt_lt, bc_tl hx, bc_tl hy]
      have h3 : Int64.ofInt y < Int64.ofInt x ↔ y < x := by rw [Int64.lt_iff_toInt_lt, bc_tl hx, bc_tl hy]
      have h2 : Int64.ofInt x = Int64.ofInt y ↔ x = y := by rw [← Int64.toInt_inj, bc_tl hx, bc_tl hy]
      unfold lg_cmp
      by_cases c1 : x < y
      · have c2 : ¬ y < x := by omega
        have c3 : ¬ x = y := by omega
        simp [h1, h2, h3, c1, c2, c3]
      · by_cases c2 : x = y
        · subst c2
          simp
        · have c3 : y < x := by omega
          simp [h1, h2, h3, c1, c2, c3]
    rw [e]; exact w))
theorem bc_s_idiv {x y : Int} (hd : decode (bc_by mi) pc = .ok (.idiv, 1)) (h1 : 0 ≤ x) (h2 : bc_vr x) (h3 : 0 < y) (h4 : bc_vr y) (hn : bc_ATr d mi post (pc + 1) loc (.inl (x / y) :: st) h) : bc_ATr d mi post pc loc (.inl y :: .inl x :: st) h :=
  bc_go hn (fun _ _ _ _ _ _ _ _ _ _ _ _ _ _ _ _ _ hx hb _ _ w => by
    obtain ⟨a, rfl⟩ := Int.eq_ofNat_of_zero_le h1
    obtain ⟨b, rfl⟩ := Int.eq_ofNat_of_zero_le (Int.le_of_lt h3)
    unfold bc_vr at h2 h4
    have e := pk_div (a := a) (d := b) (by omega) (by omega) (by omega)
    refine lv_idiv hx hb hd (fun q => ?_) ?_
    · have := (bc_eq (x := (b : Int)) (y := 0) h4 ⟨by omega, by omega⟩).mp q
      omega
    · have e2 : Int32.ofInt (a : Int) / Int32.ofInt (b : Int) = Int32.ofInt ((a : Int) / (b : Int)) := e
      rw [e2]; exact w)
theorem bc_s_irem {x y : Int} (hd : decode (bc_by mi) pc = .ok (.irem, 1)) (h1 : 0 ≤ x) (h2 : bc_vr x) (h3 : 0 < y) (h4 : bc_vr y) (hn : bc_ATr d mi post (pc + 1) loc (.inl (x % y) :: st) h) : bc_ATr d mi post pc loc (.inl y :: .inl x :: st) h :=
  bc_go hn (fun _ _ _ _ _ _ _ _ _ _ _ _ _ _ _ _ _ hx hb _ _ w => by
    obtain ⟨a, rfl⟩ := Int.eq_ofNat_of_zero_le h1
    obtain ⟨b, rfl⟩ := Int.eq_ofNat_of_zero_le (Int.le_of_lt h3)
    unfold bc_vr at h2 h4
    have e := pk_rem (a := a) (d := b) (by omega) (by omega) (by omega)
    refine lv_irem hx hb hd (fun q => ?_) ?_
    · have := (bc_eq (x := (b : Int)) (y := 0) h4 ⟨by omega, by omega⟩).mp q
      omega
    · have e2 : Int32.ofInt (a : Int) - Int32.ofInt (a : Int) / Int32.ofInt (b : Int) * Int32.ofInt (b : Int) = Int32.ofInt ((a : Int) % (b : Int)) := e
      rw [e2]; exact w)
theorem bc_oi (x : Int32) : Int32.ofInt x.toInt = x := Int32.ofInt_toInt x
theorem bc_s_iand {x y : Int} (hd : decode (bc_by mi) pc = .ok (.iand, 1)) (hn : bc_ATr d mi post (pc + 1) loc (.inl (bc_and x y) :: st) h) : bc_ATr d mi post pc loc (.inl y :: .inl x :: st) h :=
  bc_go hn (fun _ _ _ _ _ _ _ _ _ _ _ _ _ _ _ _ _ hx hb _ _ w => lv_iand hx hb hd (by rw [← bc_oi (_ &&& _)]; exact w))
theorem bc_s_ior {x y : Int} (hd : decode (bc_by mi) pc = .ok (.ior, 1)) (hn : bc_ATr d mi post (pc + 1) loc (.inl (bc_or x y) :: st) h) : bc_ATr d mi post pc loc (.inl y :: .inl x :: st) h :=
  bc_go hn (fun _ _ _ _ _ _ _ _ _ _ _ _ _ _ _ _ _ hx hb _ _ w => lv_ior hx hb hd (by rw [← bc_oi (_ ||| _)]; exact w))
theorem bc_s_ixor {x y : Int} (hd : decode (bc_by mi) pc = .ok (.ixor, 1)) (hn : bc_ATr d mi post (pc + 1) loc (.inl (bc_xor x y) :: st) h) : bc_ATr d mi post pc loc (.inl y :: .inl x :: st) h :=
  bc_go hn (fun _ _ _ _ _ _ _ _ _ _ _ _ _ _ _ _ _ hx hb _ _ w => lv_ixor hx hb hd (by rw [← bc_oi (_ ^^^ _)]; exact w))
theorem bc_s_ishl {x y : Int} (hd : decode (bc_by mi) pc = .ok (.ishl, 1)) (hn : bc_ATr d mi post (pc + 1) loc (.inl (bc_shl x y) :: st) h) : bc_ATr d mi post pc loc (.inl y :: .inl x :: st) h :=
  bc_go hn (fun _ _ _ _ _ _ _ _ _ _ _ _ _ _ _ _ _ hx hb _ _ w => lv_ishl hx hb hd (by rw [← bc_oi (_ <<< _)]; exact w))
theorem bc_s_ishr {x y : Int} (hd : decode (bc_by mi) pc = .ok (.ishr, 1)) (hn : bc_ATr d mi post (pc + 1) loc (.inl (bc_shr x y) :: st) h) : bc_ATr d mi post pc loc (.inl y :: .inl x :: st) h :=
  bc_go hn (fun _ _ _ _ _ _ _ _ _ _ _ _ _ _ _ _ _ hx hb _ _ w => lv_ishr hx hb hd (by rw [← bc_oi (_ >>> _)]; exact w))
theorem bc_s_iushr {x y : Int} (hd : decode (bc_by mi) pc = .ok (.iushr, 1)) (hn : bc_ATr d mi post (pc + 1) loc (.inl (bc_ushr x y) :: st) h) : bc_ATr d mi post pc loc (.inl y :: .inl x :: st) h :=
  bc_go hn (fun _ _ _ _ _ _ _ _ _ _ _ _ _ _ _ _ _ hx hb _ _ w => lv_iushr hx hb hd rfl (by rw [← bc_oi (UInt32.toInt32 _)]; exact w))
theorem bc_s_dup {v : bc_AV} (hd : decode (bc_by mi) pc = .ok (.dup, 1)) (hv : bc_cat v = 1) (hn : bc_ATr d mi post (pc + 1) loc (v :: v :: st) h) : bc_ATr d mi post pc loc (v :: st) h :=
  bc_go hn (fun _ _ _ _ _ _ _ _ _ _ _ _ _ _ _ _ ad hx hb _ _ w => lv_dup hx hb hd (by rw [bc_cv_cat]; exact hv) w)
theorem bc_s_dup2 {v u : bc_AV} (hd : decode (bc_by mi) pc = .ok (.dup2, 1)) (hv : bc_cat v = 1) (hu : bc_cat u = 1) (hn : bc_ATr d mi post (pc + 1) loc (v :: u :: v :: u :: st) h) : bc_ATr d mi post pc loc (v :: u :: st) h :=
  bc_go hn (fun _ _ _ _ _ _ _ _ _ _ _ _ _ _ _ _ ad hx hb _ _ w => lv_dup2_11 hx hb hd (by rw [bc_cv_cat]; exact hv) (by rw [bc_cv_cat]; exact hu) w)
theorem bc_s_goto {off : Int} {t : Nat} (hd : decode (bc_by mi) pc = .ok (.goto off, 3)) (ht : (pc : Int) + off = (t : Int)) (hn : bc_ATr d mi post t loc st h) : bc_ATr d mi post pc loc st h :=
  bc_go hn (fun _ _ _ _ _ _ _ _ _ _ _ _ _ _ _ _ _ hx hb _ _ w => lv_goto hx hb hd ht w)
theorem bc_s_ifnonnull {off : Int} {t : Nat} {x : Nat} (hd : decode (bc_by mi) pc = .ok (.ifnonnull off, 3)) (ht : (pc : Int) + off = (t : Int)) (hn : bc_ATr d mi post t loc st h) : bc_ATr d mi post pc loc (.inr (.inr x) :: st) h :=
  bc_go hn (fun _ _ _ _ _ _ _ _ _ _ _ _ _ _ _ _ _ hx hb _ _ w => lv_ifnonnull hx hb hd ht w)
end Steps
