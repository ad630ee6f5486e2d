/-! a step, the walk, and that they are sound -/
/-! the two judgements, closed to unfolding -/
theorem bc_ATx : ∃ P : Nat → Nat → (Option bc_AV → bc_AH → Prop) → Nat → List (Option bc_AV) → List bc_AV → bc_AH → Prop, P = bc_ATr := ⟨_, rfl⟩
noncomputable def bc_AT : Nat → Nat → (Option bc_AV → bc_AH → Prop) → Nat → List (Option bc_AV) → List bc_AV → bc_AH → Prop := Classical.choose bc_ATx
theorem bc_AT_eq : bc_AT = bc_ATr := Classical.choose_spec bc_ATx
theorem bc_OKx : ∃ P : Nat → Nat → List bc_AV → bc_AH → (Option bc_AV → bc_AH → Prop) → Prop, P = bc_OKr := ⟨_, rfl⟩
noncomputable def bc_OK : Nat → Nat → List bc_AV → bc_AH → (Option bc_AV → bc_AH → Prop) → Prop := Classical.choose bc_OKx
theorem bc_OK_eq : bc_OK = bc_OKr := Classical.choose_spec bc_OKx
def bc_fi (k : Fin 4) : Nat := k.val
theorem bc_fi0 : bc_fi 0 = 0 := rfl
theorem bc_fi1 : bc_fi 1 = 1 := rfl
theorem bc_fi2 : bc_fi 2 = 2 := rfl
theorem bc_fi3 : bc_fi 3 = 3 := rfl
def bc_step (d mi : Nat) (post : Option bc_AV → bc_AH → Prop) (e : bc_En) (nx : List (Option bc_AV) → List bc_AV → bc_AH → Prop) (jp : Nat → List Nat → List (Option bc_AV) → List bc_AV → bc_AH → Prop) (loc : List (Option bc_AV)) (st : List bc_AV) (h : bc_AH) : Prop :=
  match e.2.1 with
  | .iconst n => nx loc (.inl n :: st) h
  | .bipush n => nx loc (.inl n :: st) h
  | .sipush n => nx loc (.inl n :: st) h
  | .lconst n => nx loc (.inr (.inl ((n : Nat) : Int)) :: st) h
  | .ldc _ => (match e.2.2.2 with
    | [i] => nx loc (.inr (.inr (1000 + i)) :: st) h
    | _ => False)
  | .ldc_w _ => (match e.2.2.2 with
    | [_, v] => nx loc (.inl ((v : Nat) : Int) :: st) h
    | _ => False)
  | .ldc2_w _ => (match e.2.2.2 with
    | [_, v] => nx loc (.inr (.inl ((v : Nat) : Int)) :: st) h
    | _ => False)
  | .iload i => bc_ldI loc i (fun x => nx loc (.inl x :: st) h)
  | .iload_n k => bc_ldI loc (bc_fi k) (fun x => nx loc (.inl x :: st) h)
  | .lload i => bc_ldL loc i (fun x => nx loc (.inr (.inl x) :: st) h)
  | .aload i => bc_ldR loc i (fun x => nx loc (.inr (.inr x) :: st) h)
  | .aload_n k => bc_ldR loc (bc_fi k) (fun x => nx loc (.inr (.inr x) :: st) h)
  | .istore i => bc_k1 st (fun x st' => bc_nl loc i ∧ nx (bc_set loc i (some (.inl x))) st' h)
  | .istore_n k => bc_k1 st (fun x st' => bc_nl loc (bc_fi k) ∧ nx (bc_set loc (bc_fi k) (some (.inl x))) st' h)
  | .lstore i => bc_kL st (fun x st' => bc_nl loc i ∧ nx (bc_set (bc_set loc (i + 1) none) i (some (.inr (.inl x)))) st' h)
  | .iinc i n => bc_ldI loc i (fun x => bc_nl loc i ∧ nx (bc_set loc i (some (.inl (x + n)))) st h)
  | .iadd => bc_k2 st (fun x y st' => nx loc (.inl (x + y) :: st') h)
  | .isub => bc_k2 st (fun x y st' => nx loc (.inl (x - y) :: st') h)
  | .imul => bc_k2 st (fun x y st' => nx loc (.inl (x * y) :: st') h)
  | .idiv => bc_k2 st (fun x y st' => 0 ≤ x ∧ bc_vr x ∧ 0 < y ∧ bc_vr y ∧ nx loc (.inl (x / y) :: st') h)
  | .irem => bc_k2 st (fun x y st' => 0 ≤ x ∧ bc_vr x ∧ 0 < y ∧ bc_vr y ∧ nx loc (.inl (x % y) :: st') h)
  | .iand => bc_k2 st (fun x y st' => nx loc (.inl (bc_and x y) :: st') h)
  | .ior => bc_k2 st (fun x y st' => nx loc (.inl (bc_or x y) :: st') h)
  | .ixor => bc_k2 st (fun x y st' => nx loc (.inl (bc_xor x y) :: st') h)
  | .ishl => bc_k2 st (fun x y st' => nx loc (.inl (bc_shl x y) :: st') h)
  | .ishr => bc_k2 st (fun x y st' => nx loc (.inl (bc_shr x y) :: st') h)
  | .iushr => bc_k2 st (fun x y st' => nx loc (.inl (bc_ushr x y) :: st') h)
  | .i2l => bc_k1 st (fun x st' => bc_vr x ∧ nx loc (.inr (.inl x) :: st') h)
  | .ladd => bc_kL2 st (fun x y st' => nx loc (.inr (.inl (x + y)) :: st') h)
  | .lsub => bc_kL2 st (fun x y st' => nx loc (.inr (.inl (x - y)) :: st') h)
  | .lmul => bc_kL2 st (fun x y st' => nx loc (.inr (.inl (x * y)) :: st') h)
  | .lcmp => bc_kL2 st (fun x y st' => bc_vl x ∧ bc_vl y ∧ nx loc (.inl (if x < y then -1 else if x = y then 0 else 1) :: st') h)
  | .dup => (match st with
    | v :: st' => bc_cat v = 1 ∧ nx loc (v :: v :: st') h
    | _ => False)
  | .dup2 => (match st with
    | v :: u :: st' => bc_cat v = 1 ∧ bc_cat u = 1 ∧ nx loc (v :: u :: v :: u :: st') h
    | _ => False)
  | .goto _ => (match e.2.2.2 with
    | t :: ms => jp t ms loc st h
    | _ => False)
  | .ifnonnull _ => (match e.2.2.2 with
    | t :: ms => bc_kR st (fun _ st' => jp t ms loc st' h)
    | _ => False)
  | .if_icmp k _ => (match e.2.2.2 with
    | t :: ms => bc_k2 st (fun x y st' => bc_vr x ∧ bc_vr y ∧ (bc_cc k x y → jp t ms loc st' h) ∧ (¬ bc_cc k x y → nx loc st' h))
    | _ => False)
  | .ifCond k _ => (match e.2.2.2 with
    | t :: ms => bc_k1 st (fun x st' => bc_vr x ∧ (bc_cc k x 0 → jp t ms loc st' h) ∧ (¬ bc_cc k x 0 → nx loc st' h))
    | _ => False)
  | .tableswitch _ lo hi _ => (match e.2.2.2 with
    | td :: ts => bc_k1 st (fun x st' => bc_vr x ∧ bc_sw (fun t => jp t [] loc st' h) x lo ts ∧ ((x < lo ∨ hi < x) → jp td [] loc st' h))
    | _ => False)
  | .getfield _ => (match e.2.2.2 with
    | [ci, k, _] => bc_kR st (fun r st' => bc_gf (bc_lay r) ci k (h r k) (fun v => nx loc (v :: st') h))
    | _ => False)
  | .putfield _ => (match e.2.2.2, st with
    | [ci, k, _], .inl x :: .inr (.inr r) :: st' => bc_pf (bc_lay r) ci k 0 (nx loc st' (bc_up h r k x))
    | [ci, k, _], .inr (.inl x) :: .inr (.inr r) :: st' => bc_pf (bc_lay r) ci k 1 (nx loc st' (bc_up h r k x))
    | _, _ => False)
  | .iaload => bc_kIR st (fun i r st' => bc_ar (bc_lay r) (fun n => 0 ≤ i ∧ i < n ∧ nx loc (.inl (h r i.toNat) :: st') h))
  | .iastore => bc_kIIR st (fun x i r st' => bc_ar (bc_lay r) (fun n => 0 ≤ i ∧ i < n ∧ nx loc st' (bc_up h r i.toNat x)))
  | .arraylength => bc_kR st (fun r st' => bc_ar (bc_lay r) (fun n => nx loc (.inl (n : Int) :: st') h))
  | .aaload => bc_kIR st (fun i r st' => bc_arr (bc_lay r) (fun n fs => 0 ≤ i ∧ i < n ∧ nx loc (.inr (.inr (fs.getD i.toNat (0, 0)).2) :: st') h))
  | .ireturn => (match e.2.2.2, st with
    | [0], [.inl x] => post (some (.inl x)) h
    | [_], [.inl x] => (x = 0 ∨ x = 1) ∧ post (some (.inl x)) h
    | _, _ => False)
  | .return_ => (match st with
    | [] => post none h
    | _ => False)
  | .invokestatic _ => (match e.2.2.2 with
    | [mj, _, np] => (match bc_pop np [] st with
      | some (as, st') => bc_cs st' ≤ 8 ∧ bc_OK d mj as h (fun r h' => nx loc (r.toList ++ st') h')
      | none => False)
    | [1, _] => bc_k2 st (fun x y st' => bc_vr x ∧ bc_vr y ∧ bc_cs st' ≤ 8 ∧ nx loc (.inl (min x y) :: st') h)
    | [_, _] => bc_k2 st (fun x y st' => bc_vr x ∧ bc_vr y ∧ bc_cs st' ≤ 8 ∧ nx loc (.inl (max x y) :: st') h)
    | [_] => (match st with
      | .inl n :: .inl dp :: .inr (.inr b) :: .inl sp :: .inr (.inr a) :: st' => dp = 0 ∧ sp = 0 ∧ 0 ≤ n ∧ bc_ar (bc_lay a) (fun na => n ≤ na) ∧ bc_ar (bc_lay b) (fun nb => n ≤ nb) ∧ bc_cs st' ≤ 8 ∧ nx loc st' (bc_cpy h a b n.toNat)
      | _ => False)
    | _ => False)
  | .invokevirtual _ => (match e.2.2.2 with
    | [mj, _, np, ci] => (match bc_pop (np + 1) [] st with
      | some (.inr (.inr r) :: as, st') => (bc_lay r).1 = 0 ∧ (bc_lay r).2.1 = ci ∧ bc_cs st' ≤ 8 ∧ bc_OK d mj (.inr (.inr r) :: as) h (fun r h' => nx loc (r.toList ++ st') h')
      | _ => False)
    | _ => False)
  | _ => False
/-- what is checked of a row of code by program -/
def bc_ok2 (mi : Nat) (e : bc_En) : Bool := match e.2.1 with
  | .iconst _ => e.2.2.1 == 1
  | .bipush n => e.2.2.1 == 2 && decide (-128 ≤ n) && decide (n ≤ 127)
  | .sipush n => e.2.2.1 == 3 && decide (-32768 ≤ n) && decide (n ≤ 32767)
  | .lconst _ => e.2.2.1 == 1
  | .ldc idx => e.2.2.1 == 2 && (match e.2.2.2 with
    | [i] => decide (i < 3) && bc_own mi == 3 && (bc_lit i).1 == idx
    | _ => false)
  | .ldc_w idx => e.2.2.1 == 3 && (match e.2.2.2 with
    | [p, v] => bc_inG p (.constant (bc_cn (bc_own mi)) idx (Int32.ofInt ((v : Nat) : Int)))
    | _ => false)
  | .ldc2_w idx => e.2.2.1 == 3 && (match e.2.2.2 with
    | [p, v] => bc_inG p (.constantLong (bc_cn (bc_own mi)) idx (Int64.ofInt ((v : Nat) : Int)))
    | _ => false)
  | .iload _ => e.2.2.1 == 2
  | .iload_n _ => e.2.2.1 == 1
  | .lload _ => e.2.2.1 == 2
  | .aload _ => e.2.2.1 == 2
  | .aload_n _ => e.2.2.1 == 1
  | .istore i => e.2.2.1 == 2 && decide (i < bc_mL mi)
  | .istore_n k => e.2.2.1 == 1 && decide ((k : Nat) < bc_mL mi)
  | .lstore i => e.2.2.1 == 2 && decide (i + 1 < bc_mL mi)
  | .iinc i _ => e.2.2.1 == 3 && decide (i < bc_mL mi)
  | .goto off => e.2.2.1 == 3 && (match e.2.2.2 with
    | t :: _ => decide ((e.1 : Int) + off = (t : Int))
    | _ => false)
  | .ifnonnull off => e.2.2.1 == 3 && (match e.2.2.2 with
    | t :: _ => decide ((e.1 : Int) + off = (t : Int))
    | _ => false)
  | .if_icmp _ off => e.2.2.1 == 3 && (match e.2.2.2 with
    | t :: _ => decide ((e.1 : Int) + off = (t : Int))
    | _ => false)
  | .ifCond _ off => e.2.2.1 == 3 && (match e.2.2.2 with
    | t :: _ => decide ((e.1 : Int) + off = (t : Int))
    | _ => false)
  | .tableswitch df lo hi offs => (match e.2.2.2 with
    | td :: ts => decide ((e.1 : Int) + df = (td : Int)) && bc_swok e.1 offs.toList ts && decide (hi - lo + 1 = (ts.length : Int))
    | _ => false)
  | .getfield idx => e.2.2.1 == 3 && (match e.2.2.2 with
    | [ci, k, j] => (match bc_LF[j]? with
      | some q => q.1 == bc_own mi && q.2.1 == idx && q.2.2.1 == ci && q.2.2.2.1 == k
      | none => false)
    | _ => false)
  | .putfield idx => e.2.2.1 == 3 && (match e.2.2.2 with
    | [ci, k, j] => (match bc_LF[j]? with
      | some q => q.1 == bc_own mi && q.2.1 == idx && q.2.2.1 == ci && q.2.2.2.1 == k && (bc_fp ci k .int || bc_fp ci k .long)
      | none => false)
    | _ => false)
  | .ireturn => e.2.2.1 == 1 && (match e.2.2.2 with
    | [0] => decide (bc_rt mi = some .int)
    | [_] => decide (bc_rt mi = some .boolean)
    | _ => false)
  | .return_ => e.2.2.1 == 1 && decide (bc_rt mi = none)
  | .invokestatic idx => e.2.2.1 == 3 && (match e.2.2.2 with
    | [mj, j, np] => bc_good mj && (bc_MT mj).2.1 == 0 && (bc_MT mj).2.2 == np && (match bc_LM[j]? with
      | some q => q.1 == bc_own mi && q.2.1 == idx && q.2.2.1 == mj
      | none => false)
    | [1, p] => bc_inG p (.methodLink (bc_cn (bc_own mi)) idx Lib.Math.min.name)
    | [2, p] => bc_inG p (.methodLink (bc_cn (bc_own mi)) idx Lib.Math.max.name)
    | [p] => bc_inG p (.methodLink (bc_cn (bc_own mi)) idx arraycopyName)
    | _ => false)
  | .invokevirtual idx => e.2.2.1 == 3 && (match e.2.2.2 with
    | [mj, j, np, ci] => bc_good mj && (bc_MT mj).2.1 == ci + 1 && (bc_MT mj).2.2 == np && decide (ci < 8) && bc_own mj == ci && (match bc_LM[j]? with
      | some q => q.1 == bc_own mi && q.2.1 == idx && q.2.2.1 == mj
      | none => false)
    | _ => false)
  | _ => e.2.2.1 == 1
def bc_isM (e : bc_En) : Bool := match e.2.1 with
  | .nop => e.2.2.1 == 0
  | _ => false
def bc_ok (mi : Nat) (e : bc_En) : Bool := decide (decode (bc_by mi) e.1 = .ok (e.2.1, e.2.2.1)) && bc_ok2 mi e
def bc_okm (mi : Nat) (e : bc_En) : Bool := bc_isM e || bc_ok mi e
def bc_chain : List bc_En → Bool
  | [] => true
  | [_] => true
  | e :: f :: r => f.1 == e.1 + e.2.2.1 && bc_chain (f :: r)
def bc_code (mi : Nat) (k : List bc_En) : Bool := bc_good mi && k.all (bc_okm mi) && bc_chain k
theorem bc_cls {mi : Nat} (hg : bc_good mi = true) : bc_cn (bc_own mi) = (bc_y mi).cls := bc_own_ok mi (by simpa [bc_good] using hg)
theorem bc_cl_nm : ∀ ci, ci < 8 → (vwCl[ci]?).map (fun q => q.1) = some (bc_cn ci) := by
  intro ci h
  match ci, h with
  | 0, _ => rfl
  | 1, _ => rfl
  | 2, _ => rfl
  | 3, _ => rfl
  | 4, _ => rfl
  | 5, _ => rfl
  | 6, _ => rfl
  | 7, _ => rfl
/-- the tag of a field in the layout is its type -/
theorem bc_ftag {r ci k : Nat} {fs : List (Nat × Nat)} (h2 : bc_lay r = (0, ci, fs)) (h3 : k < fs.length) : (bc_fp ci k .int = true → (fs.getD k (9, 0)).1 = 0) ∧ (bc_fp ci k .long = true → (fs.getD k (9, 0)).1 = 1) := by
  have h : ∀ r, r < bc_NC → (bc_lay r).1 = 0 → ∀ k, k < (bc_lay r).2.2.length → (bc_fp (bc_lay r).2.1 k .int = true → ((bc_lay r).2.2.getD k (9, 0)).1 = 0) ∧ (bc_fp (bc_lay r).2.1 k .long = true → ((bc_lay r).2.2.getD k (9, 0)).1 = 1) := by decide +kernel
  have := h r (bc_lay_lt h2 (by decide)) (by rw [h2]) k (by rw [h2]; exact h3)
  rw [h2] at this
  exact this
theorem bc_ftag_int {r ci k : Nat} {fs : List (Nat × Nat)} (h2 : bc_lay r = (0, ci, fs)) (h3 : k < fs.length) (h4 : fs.getD k (9, 0) = (0, 0)) (h5 : bc_fp ci k .int = true ∨ bc_fp ci k .long = true) : bc_fp ci k .int = true := by
  rcases h5 with h | h
  · exact h
  · have := (bc_ftag h2 h3).2 h
    rw [h4] at this
    cases this
theorem bc_ftag_long {r ci k : Nat} {fs : List (Nat × Nat)} (h2 : bc_lay r = (0, ci, fs)) (h3 : k < fs.length) (h4 : fs.getD k (9, 0) = (1, 0)) (h5 : bc_fp ci k .int = true ∨ bc_fp ci k .long = true) : bc_fp ci k .long = true := by
  rcases h5 with h | h
  · have := (bc_ftag h2 h3).1 h
    rw [h4] at this
    cases this
  · exact h
theorem bc_step_sound {d mi : Nat} {post : Option bc_AV → bc_AH → Prop} {e : bc_En} {nx : List (Option bc_AV) → List bc_AV → bc_AH → Prop} {jp : Nat → List Nat → List (Option bc_AV) → List bc_AV → bc_AH → Prop} {loc : List (Option bc_AV)} {st : List bc_AV} {h : bc_AH}
    (hg : bc_good mi = true) (hok : bc_ok mi e = true) (hnx : ∀ loc st h, nx loc st h → bc_ATr d mi post (e.1 + e.2.2.1) loc st h) (hjp : ∀ t ms loc st h, jp t ms loc st h → bc_ATr d mi post t loc st h)
    (hs : bc_step d mi post e nx jp loc st h) : bc_ATr d mi post e.1 loc st h := by
  obtain ⟨pc, i, len, aux⟩ := e
  unfold bc_ok at hok
  simp only [Bool.and_eq_true, decide_eq_true_eq] at hok
  obtain ⟨hdec, hok⟩ := hok
  dsimp only at hdec hok hnx hs ⊢
  have hcl := bc_cls hg
  cases i <;> unfold bc_step at hs <;> dsimp only at hs <;> (try exact hs.elim) <;> unfold bc_ok2 at hok <;> simp only [Bool.and_eq_true, decide_eq_true_eq, beq_iff_eq] at hok
  case iconst n => subst hok; exact bc_s_iconst hdec (hnx _ _ _ hs)
  case bipush n => obtain ⟨⟨rfl, h1⟩, h2⟩ := hok; exact bc_s_bipush hdec h1 h2 (hnx _ _ _ hs)
  case sipush n => obtain ⟨⟨rfl, h1⟩, h2⟩ := hok; exact bc_s_sipush hdec h1 h2 (hnx _ _ _ hs)
  case lconst n => subst hok; exact bc_s_lconst hdec (hnx _ _ _ hs)
  case ldc idx =>
    obtain ⟨rfl, hok⟩ := hok
    split at hs
    · simp only [Bool.and_eq_true, decide_eq_true_eq, beq_iff_eq] at hok
      obtain ⟨⟨h1, h2⟩, h3⟩ := hok
      exact bc_s_ldcS hdec h1 (by rw [← hcl, h2]; rfl) h3 (hnx _ _ _ hs)
    · exact hs.elim
  case ldc_w idx =>
    obtain ⟨rfl, hok⟩ := hok
    split at hs
    · dsimp only at hok
      rw [hcl] at hok
      exact bc_s_ldcw hdec (bc_inG_mem hok) (hnx _ _ _ hs)
    · exact hs.elim
  case ldc2_w idx =>
    obtain ⟨rfl, hok⟩ := hok
    split at hs
    · dsimp only at hok
      rw [hcl] at hok
      exact bc_s_ldc2 hdec (bc_inG_mem hok) (hnx _ _ _ hs)
    · exact hs.elim
  case iload i => subst hok; obtain ⟨x, h1, h2⟩ := bc_ldI_of hs; exact bc_s_iload hdec h1 (hnx _ _ _ h2)
  case iload_n i => subst hok; obtain ⟨x, h1, h2⟩ := bc_ldI_of hs; exact bc_s_iload_n hdec rfl h1 (hnx _ _ _ h2)
  case lload i => subst hok; obtain ⟨x, h1, h2⟩ := bc_ldL_of hs; exact bc_s_lload hdec h1 (hnx _ _ _ h2)
  case aload i => subst hok; obtain ⟨x, h1, h2⟩ := bc_ldR_of hs; exact bc_s_aload hdec h1 (hnx _ _ _ h2)
  case aload_n i => subst hok; obtain ⟨x, h1, h2⟩ := bc_ldR_of hs; exact bc_s_aload_n hdec rfl h1 (hnx _ _ _ h2)
  case istore i =>
    obtain ⟨rfl, hi⟩ := hok
    obtain ⟨x, r, rfl, h1, h2⟩ := bc_k1_of hs
    rw [bc_set_eq] at h2
    exact bc_s_istore hdec hi (bc_nl_of h1) (hnx _ _ _ h2)
  case istore_n i =>
    obtain ⟨rfl, hi⟩ := hok
    obtain ⟨x, r, rfl, h1, h2⟩ := bc_k1_of hs
    rw [bc_set_eq] at h2
    exact bc_s_istore_n hdec rfl hi (bc_nl_of h1) (hnx _ _ _ h2)
  case lstore i =>
    obtain ⟨rfl, hi⟩ := hok
    obtain ⟨x, r, rfl, h1, h2⟩ := bc_kL_of hs
    rw [bc_set_eq, bc_set_eq] at h2
    exact bc_s_lstore hdec hi (bc_nl_of h1) (hnx _ _ _ h2)
  case iinc i n =>
    obtain ⟨rfl, hi⟩ := hok
    obtain ⟨x, h0, h1, h2⟩ := bc_ldI_of hs
    rw [bc_set_eq] at h2
    exact bc_s_iinc hdec h0 hi (bc_nl_of h1) (hnx _ _ _ h2)
  case iadd => subst hok; obtain ⟨x, y, r, rfl, h1⟩ := bc_k2_of hs; exact bc_s_iadd hdec (hnx _ _ _ h1)
  case isub => subst hok; obtain ⟨x, y, r, rfl, h1⟩ := bc_k2_of hs; exact bc_s_isub hdec (hnx _ _ _ h1)
  case imul => subst hok; obtain ⟨x, y, r, rfl, h1⟩ := bc_k2_of hs; exact bc_s_imul hdec (hnx _ _ _ h1)
  case idiv => subst hok; obtain ⟨x, y, r, rfl, h1, h2, h3, h4, h5⟩ := bc_k2_of hs; exact bc_s_idiv hdec h1 h2 h3 h4 (hnx _ _ _ h5)
  case irem => subst hok; obtain ⟨x, y, r, rfl, h1, h2, h3, h4, h5⟩ := bc_k2_of hs; exact bc_s_irem hdec h1 h2 h3 h4 (hnx _ _ _ h5)
  case iand => subst hok; obtain ⟨x, y, r, rfl, h1⟩ := bc_k2_of hs; exact bc_s_iand hdec (hnx _ _ _ h1)
  case ior => subst hok; obtain ⟨x, y, r, rfl, h1⟩ := bc_k2_of hs; exact bc_s_ior hdec (hnx _ _ _ h1)
  case ixor => subst hok; obtain ⟨x, y, r, rfl, h1⟩ := bc_k2_of hs; exact bc_s_ixor hdec (hnx _ _ _ h1)
  case ishl => subst hok; obtain ⟨x, y, r, rfl, h1⟩ := bc_k2_of hs; exact bc_s_ishl hdec (hnx _ _ _ h1)
  case ishr => subst hok; obtain ⟨x, y, r, rfl, h1⟩ := bc_k2_of hs; exact bc_s_ishr hdec (hnx _ _ _ h1)
  case iushr => subst hok; obtain ⟨x, y, r, rfl, h1⟩ := bc_k2_of hs; exact bc_s_iushr hdec (hnx _ _ _ h1)
  case i2l => subst hok; obtain ⟨x, r, rfl, h1, h2⟩ := bc_k1_of hs; exact bc_s_i2l hdec h1 (hnx _ _ _ h2)
  case ladd => subst hok; obtain ⟨x, y, r, rfl, h1⟩ := bc_kL2_of hs; exact bc_s_ladd hdec (hnx _ _ _ h1)
  case lsub => subst hok; obtain ⟨x, y, r, rfl, h1⟩ := bc_kL2_of hs; exact bc_s_lsub hdec (hnx _ _ _ h1)
  case lmul => subst hok; obtain ⟨x, y, r, rfl, h1⟩ := bc_kL2_of hs; exact bc_s_lmul hdec (hnx _ _ _ h1)
  case lcmp => subst hok; obtain ⟨x, y, r, rfl, h1, h2, h3⟩ := bc_kL2_of hs; exact bc_s_lcmp hdec h1 h2 (hnx _ _ _ h3)
  case dup =>
    subst hok
    split at hs
    · exact bc_s_dup hdec hs.1 (hnx _ _ _ hs.2)
    · exact hs.elim
  case dup2 =>
    subst hok
    split at hs
    · exact bc_s_dup2 hdec hs.1 hs.2.1 (hnx _ _ _ hs.2.2)
    · exact hs.elim
  case goto off =>
    obtain ⟨rfl, hok⟩ := hok
    split at hs
    · simp only [decide_eq_true_eq] at hok
      exact bc_s_goto hdec hok (hjp _ _ _ _ _ hs)
    · exact hs.elim
  case ifnonnull off =>
    obtain ⟨rfl, hok⟩ := hok
    split at hs
    · simp only [decide_eq_true_eq] at hok
      obtain ⟨a, r, rfl, h1⟩ := bc_kR_of hs
      exact bc_s_ifnonnull hdec hok (hjp _ _ _ _ _ h1)
    · exact hs.elim
  case if_icmp k off =>
    obtain ⟨rfl, hok⟩ := hok
    split at hs
    · simp only [decide_eq_true_eq] at hok
      obtain ⟨x, y, r, rfl, h1, h2, h3, h4⟩ := bc_k2_of hs
      exact bc_s_icmp hdec hok h1 h2 (fun q => hjp _ _ _ _ _ (h3 q)) (fun q => hnx _ _ _ (h4 q))
    · exact hs.elim
  case ifCond k off =>
    obtain ⟨rfl, hok⟩ := hok
    split at hs
    · simp only [decide_eq_true_eq] at hok
      obtain ⟨x, r, rfl, h1, h3, h4⟩ := bc_k1_of hs
      exact bc_s_if hdec hok h1 (fun q => hjp _ _ _ _ _ (h3 q)) (fun q => hnx _ _ _ (h4 q))
    · exact hs.elim
  case tableswitch df lo hi offs =>
    split at hs
    · simp only [Bool.and_eq_true, decide_eq_true_eq] at hok
      obtain ⟨⟨h1, h2⟩, h3⟩ := hok
      obtain ⟨x, r, rfl, h4, h5, h6⟩ := bc_k1_of hs
      refine bc_s_switch hdec h4 h1 h2 h3 ?_ (fun q => hjp _ _ _ _ _ (h6 q))
      have mono : ∀ (ts : List Nat) (lo : Int), bc_sw (fun t => jp t [] loc r h) x lo ts → bc_sw (fun t => bc_ATr d mi post t loc r h) x lo ts := by
        intro ts
        induction ts with
        | nil => intro lo _; trivial
        | cons t ts ih => intro lo hq; exact ⟨fun q => hjp _ _ _ _ _ (hq.1 q), ih _ hq.2⟩
      exact mono _ _ h5
    · exact hs.elim
  case getfield idx =>
    obtain ⟨rfl, hok⟩ := hok
    split at hs
    · dsimp only at hok
      split at hok
      · rename_i q hq
        simp only [Bool.and_eq_true, beq_iff_eq] at hok
        obtain ⟨⟨⟨e1, e2⟩, e3⟩, e4⟩ := hok
        have hw := bc_LF_ok q (List.mem_of_getElem? hq)
        rw [e1, e2, e3, e4, hcl] at hw
        obtain ⟨r, st', rfl, h1⟩ := bc_kR_of hs
        obtain ⟨fs, v, h2, h3, h4, h5⟩ := bc_gf_of h1
        exact bc_s_get hdec hw h2 h3 h4 (hnx _ _ _ h5)
      · cases hok
    · exact hs.elim
  case putfield idx =>
    obtain ⟨rfl, hok⟩ := hok
    split at hs
    · dsimp only at hok
      split at hok
      · rename_i q hq
        simp only [Bool.and_eq_true, beq_iff_eq, Bool.or_eq_true] at hok
        obtain ⟨⟨⟨⟨e1, e2⟩, e3⟩, e4⟩, e5⟩ := hok
        have hw := bc_LF_ok q (List.mem_of_getElem? hq)
        rw [e1, e2, e3, e4, hcl] at hw
        obtain ⟨fs, h2, h3, h4, h5⟩ := bc_pf_of hs (by decide)
        have hty := bc_ftag_int h2 h3 h4 e5
        exact bc_s_put (ty := .int) hdec hw hty h2 h3 (fun ad => by rw [h4]; rfl) (fun _ => rfl) (fun _ => rfl) (hnx _ _ _ h5)
      · cases hok
    · dsimp only at hok
      split at hok
      · rename_i q hq
        simp only [Bool.and_eq_true, beq_iff_eq, Bool.or_eq_true] at hok
        obtain ⟨⟨⟨⟨e1, e2⟩, e3⟩, e4⟩, e5⟩ := hok
        have hw := bc_LF_ok q (List.mem_of_getElem? hq)
        rw [e1, e2, e3, e4, hcl] at hw
        obtain ⟨fs, h2, h3, h4, h5⟩ := bc_pf_of hs (by decide)
        have hty := bc_ftag_long h2 h3 h4 e5
        exact bc_s_put (ty := .long) hdec hw hty h2 h3 (fun ad => by rw [h4]; rfl) (fun _ => rfl) (fun _ => rfl) (hnx _ _ _ h5)
      · cases hok
    · exact hs.elim
  case iaload =>
    subst hok
    obtain ⟨i, r, st', rfl, h1⟩ := bc_kIR_of hs
    obtain ⟨n, fs, h2, h3, h4, h5⟩ := bc_ar_of h1
    exact bc_s_iald hdec h2 h3 h4 (hnx _ _ _ h5)
  case iastore =>
    subst hok
    obtain ⟨x, i, r, st', rfl, h1⟩ := bc_kIIR_of hs
    obtain ⟨n, fs, h2, h3, h4, h5⟩ := bc_ar_of h1
    exact bc_s_iast hdec h2 h3 h4 (hnx _ _ _ h5)
  case arraylength =>
    subst hok
    obtain ⟨r, st', rfl, h1⟩ := bc_kR_of hs
    obtain ⟨n, fs, h2, h3⟩ := bc_ar_of h1
    exact bc_s_alen hdec h2 (hnx _ _ _ h3)
  case aaload =>
    subst hok
    obtain ⟨i, r, st', rfl, h1⟩ := bc_kIR_of hs
    obtain ⟨n, fs, h2, h3, h4, h5⟩ := bc_arr_of h1
    exact bc_s_aald hdec h2 h3 h4 (hnx _ _ _ h5)
  case ireturn =>
    obtain ⟨rfl, hok⟩ := hok
    split at hs
    · simp only [decide_eq_true_eq] at hok
      exact bc_s_ireturn hdec (Or.inl hok) hs
    · rename_i q _ _ hq0
      split at hok
      · rename_i heq
        cases heq
        exact (hq0 rfl).elim
      · simp only [decide_eq_true_eq] at hok
        exact bc_s_ireturn hdec (Or.inr ⟨hok, hs.1⟩) hs.2
      · cases hok
    · exact hs.elim
  case return_ =>
    obtain ⟨rfl, hok⟩ := hok
    split at hs
    · exact bc_s_return hdec hok hs
    · exact hs.elim
  case invokestatic idx =>
    obtain ⟨rfl, hok⟩ := hok
    split at hs
    · rename_i mj j np
      split at hs
      · rename_i as st' hp
        dsimp only at hok
        simp only [Bool.and_eq_true, beq_iff_eq] at hok
        obtain ⟨⟨⟨g1, g2⟩, g3⟩, hok⟩ := hok
        split at hok
        · rename_i q hq
          simp only [Bool.and_eq_true, beq_iff_eq] at hok
          obtain ⟨⟨e1, e2⟩, e3⟩ := hok
          have hw := bc_LM_ok q (List.mem_of_getElem? hq)
          rw [e1, e2, e3, hcl] at hw
          exact bc_s_static hdec g1 g2 hw (by rw [g3]; exact hp) (by rw [bc_cs_eq]; exact hs.1) (by rw [← bc_OK_eq]; exact hs.2) (fun r h' q => hnx _ _ _ q)
        · cases hok
      · exact hs.elim
    · rename_i p
      obtain ⟨x, y, r, rfl, h1, h2, h3, h4⟩ := bc_k2_of hs
      rw [hcl] at hok
      exact bc_s_min hdec hok h1 h2 h3 (hnx _ _ _ h4)
    · rename_i a p hne
      obtain ⟨x, y, r, rfl, h1, h2, h3, h4⟩ := bc_k2_of hs
      split at hok
      · rename_i heq; cases heq
      · rename_i heq; cases heq; exact absurd rfl hne
      · rename_i heq
        cases heq
        rw [hcl] at hok
        exact bc_s_max hdec hok h1 h2 h3 (hnx _ _ _ h4)
      · rename_i heq; cases heq
      · cases hok
    · split at hs
      · obtain ⟨rfl, rfl, h3, h4, h5, h6, h7⟩ := hs
        obtain ⟨na, fa, ha, hna⟩ := bc_ar_of h4
        obtain ⟨nb, fb, hb, hnb⟩ := bc_ar_of h5
        rw [hcl] at hok
        exact bc_s_cpy hdec hok h3 ha hb hna hnb h6 (hnx _ _ _ h7)
      · exact hs.elim
    · exact hs.elim
  case invokevirtual idx =>
    obtain ⟨rfl, hok⟩ := hok
    split at hs
    · rename_i mj j np ci
      split at hs
      · rename_i r as st' hp
        simp only [Bool.and_eq_true, beq_iff_eq, decide_eq_true_eq] at hok
        obtain ⟨⟨⟨⟨⟨g1, g2⟩, g3⟩, g4⟩, g5⟩, hok⟩ := hok
        obtain ⟨s1, s2, s3, s4⟩ := hs
        split at hok
        · rename_i q hq
          simp only [Bool.and_eq_true, beq_iff_eq] at hok
          obtain ⟨⟨e1, e2⟩, e3⟩ := hok
          have hw := bc_LM_ok q (List.mem_of_getElem? hq)
          rw [e1, e2, e3, hcl] at hw
          refine bc_s_virtual hdec g1 hw (by rw [g3]; exact hp) (by rw [bc_cs_eq]; exact s3) s1 (by rw [g2, s2]) ?_ (by rw [← bc_OK_eq]; exact s4) (fun r h' q => hnx _ _ _ q)
          rw [s2, bc_cl_nm ci g4, ← bc_cls g1, g5]
        · cases hok
      · exact hs.elim
    · exact hs.elim
-- loop heads: rows '.nop' of no length, at each the locals that live there (0 none, 1 lives)
def bc_mk : List Nat → List (Option bc_AV) → List (Option bc_AV)
  | 0 :: bs, _ :: vs => none :: bc_mk bs vs
  | (_ + 1) :: bs, v :: vs => v :: bc_mk bs vs
  | _, _ => []
theorem bc_mk_at : ∀ (m : List Nat) (loc : List (Option bc_AV)) (i : Nat) (v : bc_AV), (bc_mk m loc)[i]? = some (some v) → loc[i]? = some (some v) := by
  intro m
  induction m with
  | nil => intro loc i v h; simp [bc_mk] at h
  | cons b bs ih =>
    intro loc i v h
    cases loc with
    | nil => cases b <;> simp [bc_mk] at h
    | cons a r =>
      cases b with
      | succ b =>
        cases i with
        | zero => simpa [bc_mk] using h
        | succ i => simp [bc_mk] at h; simpa using ih r i v h
      | zero =>
        cases i with
        | zero => simp [bc_mk] at h
        | succ i => simp [bc_mk] at h; simpa using ih r i v h
/-- a jump: ahead (no mask) the walk goes on there; back it's a loop's head -/
def bc_jmp (d mi : Nat) (post : Option bc_AV → bc_AH → Prop) (fw : Nat → List (Option bc_AV) → List bc_AV → bc_AH → Prop) (t : Nat) (mk : List Nat) (loc : List (Option bc_AV)) (st : List bc_AV) (h : bc_AH) : Prop := match mk with
  | [] => fw t loc st h
  | b :: bs => bc_AT d mi post t (bc_mk (b :: bs) loc) st h
def bc_one (d mi : Nat) (post : Option bc_AV → bc_AH → Prop) (e : bc_En) (fl : Bool) (nx : List (Option bc_AV) → List bc_AV → bc_AH → Prop) (fw : Nat → List (Option bc_AV) → List bc_AV → bc_AH → Prop) (loc : List (Option bc_AV)) (st : List bc_AV) (h : bc_AH) : Prop :=
  match bc_isM e with
  | true => (match fl with
    | true => nx loc st h
    | false => bc_AT d mi post e.1 (bc_mk e.2.2.2 loc) st h)
  | false => bc_step d mi post e nx (bc_jmp d mi post fw) loc st h
def bc_vc (d mi : Nat) (post : Option bc_AV → bc_AH → Prop) : List bc_En → Option Nat → Bool → List (Option bc_AV) → List bc_AV → bc_AH → Prop
  | [], _, _, _, _, _ => False
  | e :: rest, sk, fl, loc, st, h => match sk with
    | some t => if e.1 = t then bc_one d mi post e fl (bc_vc d mi post rest none false) (fun t => bc_vc d mi post rest (some t) false) loc st h else bc_vc d mi post rest (some t) fl loc st h
    | none => bc_one d mi post e fl (bc_vc d mi post rest none false) (fun t => bc_vc d mi post rest (some t) false) loc st h
theorem bc_vc_sound {d mi : Nat} {post : Option bc_AV → bc_AH → Prop} (hg : bc_good mi = true) : ∀ (code : List bc_En), code.all (bc_okm mi) = true → bc_chain code = true →
    ∀ (loc : List (Option bc_AV)) (st : List bc_AV) (h : bc_AH) (fl : Bool), (∀ t, bc_vc d mi post code (some t) fl loc st h → bc_ATr d mi post t loc st h) ∧ (∀ e rest, code = e :: rest → bc_vc d mi post code none fl loc st h → bc_ATr d mi post e.1 loc st h) := by
  intro code
  induction code with
  | nil => intro _ _ loc st h fl; exact ⟨fun t q => q.elim, fun e rest q => by cases q⟩
  | cons e rest ih =>
    intro hall hch loc st h fl
    rw [List.all_cons, Bool.and_eq_true] at hall
    have hch' : bc_chain rest = true := by
      cases rest with
      | nil => rfl
      | cons f r => simp only [bc_chain, Bool.and_eq_true] at hch; exact hch.2
    have IH := ih hall.2 hch'
    have hnx : ∀ loc st h, bc_vc d mi post rest none false loc st h → bc_ATr d mi post (e.1 + e.2.2.1) loc st h := by
      intro loc st h q
      cases rest with
      | nil => exact q.elim
      | cons f r =>
        have := (IH loc st h false).2 f r rfl q
        simp only [bc_chain, Bool.and_eq_true, beq_iff_eq] at hch
        rw [hch.1] at this
        exact this
    have hjp : ∀ t mk loc st h, bc_jmp d mi post (fun t => bc_vc d mi post rest (some t) false) t mk loc st h → bc_ATr d mi post t loc st h := by
      intro t mk loc st h q
      unfold bc_jmp at q
      split at q
      · exact (IH loc st h false).1 t q
      · rw [bc_AT_eq] at q
        exact bc_ATr_weak q (fun i v hv => bc_mk_at _ _ _ _ hv)
    have here : bc_one d mi post e fl (bc_vc d mi post rest none false) (fun t => bc_vc d mi post rest (some t) false) loc st h → bc_ATr d mi post e.1 loc st h := by
      intro q
      unfold bc_one at q
      split at q
      · rename_i hM
        split at q
        · have h1 := hnx loc st h q
          have h2 : e.2.2.1 = 0 := by
            unfold bc_isM at hM
            split at hM
            · simpa using hM
            · cases hM
          rw [h2, Nat.add_zero] at h1
          exact h1
        · rw [bc_AT_eq] at q
          exact bc_ATr_weak q (fun i v hv => bc_mk_at _ _ _ _ hv)
      · rename_i hM
        have h1 : bc_ok mi e = true := by
          have := hall.1
          unfold bc_okm at this
          rw [hM, Bool.false_or] at this
          exact this
        exact bc_step_sound hg h1 hnx hjp q
    refine ⟨fun t q => ?_, fun e' rest' he q => ?_⟩
    · unfold bc_vc at q
      dsimp only at q
      split at q
      · rename_i het
        rw [← het]
        exact here q
      · exact (IH loc st h fl).1 t q
    · cases he
      unfold bc_vc at q
      exact here q
/-- from a loop's head -/
theorem bc_at {d mi : Nat} {post : Option bc_AV → bc_AH → Prop} {k : List bc_En} (hk : bc_code mi k = true) {t : Nat} {loc : List (Option bc_AV)} {st : List bc_AV} {h : bc_AH} (q : bc_vc d mi post k (some t) true loc st h) : bc_AT d mi post t loc st h := by
  unfold bc_code at hk
  simp only [Bool.and_eq_true] at hk
  rw [bc_AT_eq]
  exact (bc_vc_sound hk.1.1 k hk.1.2 hk.2 loc st h true).1 t q
/-- the locals at a method's entry -/
def bc_ent (args : List bc_AV) (n : Nat) : List (Option bc_AV) := args.map some ++ List.replicate (n - args.length) none
theorem bc_lv_args (ad : Nat → Nat) : ∀ (args : List bc_AV) (b : Nat), (∀ v ∈ args, bc_cat v = 1) → ∀ (i : Nat) (v : bc_AV), args[i]? = some v → (b + i, bc_cv ad v) ∈ lv_args b (args.map (bc_cv ad)) := by
  intro args
  induction args with
  | nil => intro b _ i v h; simp at h
  | cons a r ih =>
    intro b hc i v h
    have ha : (bc_cv ad a).category = 1 := by rw [bc_cv_cat]; exact hc a List.mem_cons_self
    cases i with
    | zero => simp at h; subst h; simp [lv_args]
    | succ i =>
      simp at h
      have := ih (b + 1) (fun v hv => hc v (List.mem_cons_of_mem _ hv)) i v h
      simp only [List.map_cons, lv_args, ha]
      refine List.mem_cons_of_mem _ ?_
      have e : b + (i + 1) = b + 1 + i := by omega
      rw [e]
      exact this
/-- a method's contract out of its walk -/
theorem bc_ok_of {d mi : Nat} {post : Option bc_AV → bc_AH → Prop} {k : List bc_En} (hk : bc_code mi k = true) {args : List bc_AV} {h : bc_AH} (h0 : ∃ e r, k = e :: r ∧ e.1 = 0) (hc : ∀ v ∈ args, bc_cat v = 1) (hn : args.length ≤ bc_mL mi)
    (q : bc_vc d mi post k none false (bc_ent args (bc_mL mi)) [] h) : bc_OK (d + 1) mi args h post := by
  rw [bc_OK_eq]
  intro l Z sz
  unfold bc_code at hk
  simp only [Bool.and_eq_true] at hk
  obtain ⟨e0, r0, rfl, he0⟩ := h0
  have hat := (bc_vc_sound hk.1.1 _ hk.1.2 hk.2 _ _ h false).2 e0 r0 rfl q
  rw [he0] at hat
  have hmk := bc_mok_all mi hk.1.1
  have hpl : plainName (bc_y mi).cls = true := by
    unfold bc_mok at hmk
    simp only [Bool.and_eq_true] at hmk
    exact hmk.1.1.2
  refine Met.ofW (cc := bc_by mi) (maxL := bc_mL mi) (ret := bc_rt mi) hpl rfl ?_
  intro p e s m args' below meth c s₁ B hml hv
  obtain ⟨rfl, hsz, hW, hP⟩ := hv
  subst hsz
  have hsl : ∀ (vs : List bc_AV), (∀ v ∈ vs, bc_cat v = 1) → (lg_sl (vs.map (bc_cv Z.2.1))).length = vs.length := by
    intro vs
    induction vs with
    | nil => intro _; rfl
    | cons a r ih =>
      intro hcs
      have ha : (bc_cv Z.2.1 a).category = 1 := by rw [bc_cv_cat]; exact hcs a List.mem_cons_self
      have := ih (fun v hv => hcs v (List.mem_cons_of_mem _ hv))
      have e2 : lg_sl ((a :: r).map (bc_cv Z.2.1)) = [.val (bc_cv Z.2.1 a)] ++ lg_sl (r.map (bc_cv Z.2.1)) := by simp [lg_sl, ha]
      rw [e2, List.length_append, this]
      simp
      omega
  have hl := lv_entry (args.map (bc_cv Z.2.1)) (n := bc_mL mi) (by rw [hsl args hc]; exact hn)
  rw [lg_entry_eq]
  have hlL : bc_L Z (lg_sl (args.map (bc_cv Z.2.1)) ++ List.replicate (bc_mL mi - (lg_sl (args.map (bc_cv Z.2.1))).length) Slot.unset).toArray (bc_mL mi) (bc_ent args (bc_mL mi)) := by
    refine ⟨hl.1, hl.2.1, fun i v hi => ?_⟩
    unfold bc_ent at hi
    have hi2 : args[i]? = some v := by
      by_cases hlt : i < args.length
      · rw [List.getElem?_append_left (by simpa using hlt)] at hi
        simpa using hi
      · rw [List.getElem?_append_right (by simpa using hlt)] at hi
        rw [List.getElem?_replicate] at hi
        split at hi <;> simp at hi
    have := bc_lv_args Z.2.1 args 0 hc i v hi2
    rw [Nat.zero_add] at this
    exact hl.2.2 (i, bc_cv Z.2.1 v) this
  exact hat p l e s m _ below meth c Z (bc_A Z s.heap.size) s.heap [] _ ⟨B.exec, B.bytes, hml, B.returns, atoms_spec (ws := bc_ws mi) B.pre, findClass_of_methodNamed B.named, B.notSynchronized⟩ (fun q hq => Or.inr hq) hW hP va_S.rf hlL
def bc_en : List bc_AV → Nat → List (Option bc_AV)
  | _, 0 => []
  | [], n + 1 => none :: bc_en [] n
  | a :: r, n + 1 => some a :: bc_en r n
theorem bc_en_nil : ∀ n, bc_en [] n = List.replicate n none := by
  intro n
  induction n with
  | zero => rfl
  | succ n ih => rw [bc_en, ih, List.replicate_succ]
theorem bc_en_eq : ∀ (args : List bc_AV) (n : Nat), args.length ≤ n → bc_en args n = bc_ent args n := by
  intro args
  induction args with
  | nil => intro n _; rw [bc_en_nil]; simp [bc_ent]
  | cons a r ih =>
    intro n h
    cases n with
    | zero => simp at h
    | succ n =>
      simp at h
      rw [bc_en, ih n h]
      simp [bc_ent]
/-- the same, with the locals written out -/
theorem bc_run {d mi n : Nat} {post : Option bc_AV → bc_AH → Prop} {k : List bc_En} {e : bc_En} {r : List bc_En} (hk : bc_code mi k = true) (hm : bc_mL mi = n) (h0 : k = e :: r) (h1 : e.1 = 0) {args : List bc_AV} {h : bc_AH} (hc : args.all (fun v => bc_cat v == 1) = true) (hn : args.length ≤ n)
    (q : bc_vc d mi post k none false (bc_en args n) [] h) : bc_OK (d + 1) mi args h post := by
  subst hm
  rw [bc_en_eq args _ hn] at q
  refine bc_ok_of hk ⟨e, r, h0, h1⟩ (fun v hv => ?_) hn q
  have := List.all_eq_true.mp hc v hv
  simpa using this
