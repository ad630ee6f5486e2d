/-! the JDK's String.length and charAt over the literals -/
theorem bc_lv_argsV : ∀ (vs : List Value) (b : Nat), (∀ v ∈ vs, v.category = 1) → ∀ (i : Nat) (v : Value), vs[i]? = some v → (b + i, v) ∈ lv_args b vs := by
  intro vs
  induction vs with
  | nil => intro b _ i v h; simp at h
  | cons a r ih =>
    intro b hc i v h
    have ha : a.category = 1 := hc a List.mem_cons_self
    cases i with
    | zero => simp at h; subst h; simp [lv_args]
    | succ i =>
      simp at h
      have := ih (b + 1) (fun v hv => hc v (List.mem_cons_of_mem _ hv)) i v h
      simp only [lv_args, ha]
      refine List.mem_cons_of_mem _ ?_
      have e : b + (i + 1) = b + 1 + i := by omega
      rw [e]
      exact this
/-- a method's contract out of its walk, the arguments being values -/
theorem bc_okV {d mi : Nat} {post : Option bc_AV → bc_AH → Prop} {vals : List Value} {loc : List (Option bc_AV)} {h : bc_AH} {l : Launch} {Z : bc_ZT} {sz : Nat} (hpl : plainName (bc_y mi).cls = true) (hc : ∀ v ∈ vals, v.category = 1) (hn : vals.length ≤ bc_mL mi) (hloc : ∀ (i : Nat) (v : bc_AV), loc[i]? = some (some v) → vals[i]? = some (bc_cv Z.2.1 v)) (hat : bc_ATr d mi post 0 loc [] h) :
    Met l (bc_y mi) (bc_ws mi) (bc_rm (d + 1)) (va_Pc vals (fun U => U.heap.size = sz ∧ bc_WK Z (bc_A Z sz) U U.heap ∧ va_P Z.1 vwCl (bc_WS Z h) U.heap)) (bc_Q Z post (bc_A Z sz)) 0 0 (bc_A Z sz) := by
  refine Met.ofW (cc := bc_by mi) (maxL := bc_mL mi) (ret := bc_rt mi) hpl rfl ?_
  intro p e s m args' below meth c s₁ B hml hv
  obtain ⟨rfl, hsz, hW, hP⟩ := hv
  subst hsz
  have hsl : ∀ (vs : List Value), (∀ v ∈ vs, v.category = 1) → (lg_sl vs).length = vs.length := by
    intro vs
    induction vs with
    | nil => intro _; rfl
    | cons a r ih =>
      intro hcs
      have ha : a.category = 1 := hcs a List.mem_cons_self
      have := ih (fun v hv => hcs v (List.mem_cons_of_mem _ hv))
      have e2 : lg_sl (a :: r) = [.val a] ++ lg_sl r := by simp [lg_sl, ha]
      rw [e2, List.length_append, this]
      simp
      omega
  have hl := lv_entry vals (n := bc_mL mi) (by rw [hsl vals hc]; exact hn)
  rw [lg_entry_eq]
  have hlL : bc_L Z (lg_sl vals ++ List.replicate (bc_mL mi - (lg_sl vals).length) Slot.unset).toArray (bc_mL mi) loc := by
    refine ⟨hl.1, hl.2.1, fun i v hi => ?_⟩
    have := bc_lv_argsV vals 0 hc i _ (hloc i v hi)
    rw [Nat.zero_add] at this
    exact hl.2.2 (i, bc_cv Z.2.1 v) this
  exact hat p l e s m _ below meth c Z (bc_A Z s.heap.size) s.heap [] _ ⟨B.exec, B.bytes, hml, B.returns, atoms_spec (ws := bc_ws mi) B.pre, findClass_of_methodNamed B.named, B.notSynchronized⟩ (fun q hq => Or.inr hq) hW hP va_S.rf hlL
theorem bc_okA {d mi : Nat} {post : Option bc_AV → bc_AH → Prop} {args : List bc_AV} {h : bc_AH} (hpl : plainName (bc_y mi).cls = true) (hc : ∀ v ∈ args, bc_cat v = 1) (hn : args.length ≤ bc_mL mi) (hat : bc_ATr d mi post 0 (args.map some) [] h) : bc_OKr (d + 1) mi args h post := by
  intro l Z sz
  refine bc_okV hpl (fun v hv => ?_) (by simpa using hn) (fun i v hi => ?_) hat
  · obtain ⟨a, ha, rfl⟩ := List.mem_map.mp hv
    rw [bc_cv_cat]; exact hc a ha
  · rw [List.getElem?_map] at hi ⊢
    cases q : args[i]? with
    | none => rw [q] at hi; simp at hi
    | some a => rw [q] at hi; simp at hi; simp [hi]
section Str
variable {d mi : Nat} {post : Option bc_AV → bc_AH → Prop} {pc : Nat} {loc : List (Option bc_AV)} {st : List bc_AV} {h : bc_AH}
theorem bc_s_compact {idx pos : Nat} (hd : decode (bc_by mi) pc = .ok (.getstatic idx, 3)) (hw : bc_inG pos (.fieldLink (bc_y mi).cls idx "java/lang/String" "COMPACT_STRINGS" "Z") = true) (hn : bc_ATr d mi post (pc + 3) loc (.inl 1 :: st) h) : bc_ATr d mi post pc loc st h := by
  intro p l e s m args below meth c Z A H locs ls hX hA hW hP hS hL
  have hN := hn p l e s m args below meth c Z A H locs ls hX hA hW hP hS hL
  exact va_gets hX.1 hX.2.1 hW.2.2.2.2.2.2.1 hS hX.2.2.2.2.2.1 (hX.2.2.2.2.1 _ (List.mem_cons_of_mem _ (bc_inG_mem hw))) (fun _ q => q) hd hN
theorem bc_s_coder {idx pos i : Nat} (hi : i < 3) (hd : decode (bc_by mi) pc = .ok (.getfield idx, 3)) (hw : bc_inG pos (.fieldLink (bc_y mi).cls idx "java/lang/String" "coder" "B") = true) (hn : bc_ATr d mi post (pc + 3) loc (.inl 0 :: st) h) : bc_ATr d mi post pc loc (.inr (.inr (1000 + i)) :: st) h := by
  intro p l e s m args below meth c Z A H locs ls hX hA hW hP hS hL
  have hN := hn p l e s m args below meth c Z A H locs ls hX hA hW hP hS hL
  exact vk_getf hX.1 hX.2.1 (hW.2.2.2.2.2.1.1 i hi).2.1 hS hX.2.2.2.2.2.1 (hX.2.2.2.2.1 _ (List.mem_cons_of_mem _ (bc_inG_mem hw))) (fun _ q => q) hd hN
theorem bc_s_value {idx pos i : Nat} (hi : i < 3) (hd : decode (bc_by mi) pc = .ok (.getfield idx, 3)) (hw : bc_inG pos (.fieldLink (bc_y mi).cls idx "java/lang/String" "value" "[B") = true) (hn : bc_ATr d mi post (pc + 3) loc (.inr (.inr (1100 + i)) :: st) h) : bc_ATr d mi post pc loc (.inr (.inr (1000 + i)) :: st) h := by
  intro p l e s m args below meth c Z A H locs ls hX hA hW hP hS hL
  have hN := hn p l e s m args below meth c Z A H locs ls hX hA hW hP hS hL
  exact vk_getf hX.1 hX.2.1 (hW.2.2.2.2.2.1.1 i hi).2.2.1 hS hX.2.2.2.2.2.1 (hX.2.2.2.2.1 _ (List.mem_cons_of_mem _ (bc_inG_mem hw))) (fun _ q => q) hd hN
theorem bc_s_blen {i : Nat} (hi : i < 3) (hd : decode (bc_by mi) pc = .ok (.arraylength, 1)) (hn : bc_ATr d mi post (pc + 1) loc (.inl (bc_slen.getD i 0 : Int) :: st) h) : bc_ATr d mi post pc loc (.inr (.inr (1100 + i)) :: st) h := by
  intro p l e s m args below meth c Z A H locs ls hX hA hW hP hS hL
  have hN := hn p l e s m args below meth c Z A H locs ls hX hA hW hP hS hL
  exact va_tlen hX.1 hX.2.1 (hW.2.2.2.2.2.1.1 i hi).2.2.2 hS rfl hd hN
/-- the byte j of the literal i -/
def bc_by8 (i j : Nat) : Int := ((bc_sbyt.getD i []).getD j 0).toInt
theorem bc_s_bald {i j : Nat} (hi : i < 3) (hj : j < bc_slen.getD i 0) (hd : decode (bc_by mi) pc = .ok (.baload, 1)) (hn : bc_ATr d mi post (pc + 1) loc (.inl (bc_by8 i j) :: st) h) : bc_ATr d mi post pc loc (.inl (j : Int) :: .inr (.inr (1100 + i)) :: st) h := by
  intro p l e s m args below meth c Z A H locs ls hX hA hW hP hS hL
  have hN := hn p l e s m args below meth c Z A H locs ls hX hA hW hP hS hL
  have hl4 : bc_slen.getD i 0 ≤ 4 := by
    have : ∀ i, i < 3 → bc_slen.getD i 0 ≤ 4 := by decide +kernel
    exact this i hi
  have hcl : (Int32.ofInt (j : Int)).toNatClampNeg = j := by
    have := bc_cl (i := (j : Int)) (by omega) (by omega)
    rw [this]; omega
  have e8 : Int32.ofInt (bc_by8 i j) = (bc_sbyt.getD i []).getD j 0 := by unfold bc_by8; exact Int32.ofInt_toInt _
  refine va_tb hX.1 hX.2.1 (hW.2.2.2.2.2.1.1 i hi).2.2.2 hS (i := Int32.ofInt (j : Int)) (bc_in (by omega) (by omega) (by omega)) (v := .int (Int32.ofInt (bc_by8 i j))) ?_ hd hN
  rw [hcl, e8]
theorem bc_s_i2c {x : Int} (hx : 0 ≤ x ∧ x ≤ 255) (hd : decode (bc_by mi) pc = .ok (.i2c, 1)) (hn : bc_ATr d mi post (pc + 1) loc (.inl x :: st) h) : bc_ATr d mi post pc loc (.inl x :: st) h := by
  refine bc_go hn (fun _ _ _ _ _ _ _ _ _ _ _ _ _ _ _ _ _ hx' hb _ _ w => lv_i2c hx' hb hd ?_ w)
  have : ∀ n : Nat, n < 256 → ((Int32.ofInt (n : Int)).toUInt32 % 65536).toInt32 = Int32.ofInt (n : Int) := by decide +kernel
  obtain ⟨a, rfl⟩ := Int.eq_ofNat_of_zero_le hx.1
  exact this a (by omega)
theorem bc_s_iretT {x : Int} {ty : FieldType} (hd : decode (bc_by mi) pc = .ok (.ireturn, 1)) (hr : bc_rt mi = some ty) (ht : narrow ty (.int (Int32.ofInt x)) = .int (Int32.ofInt x)) (hty : ty = .char ∨ ty = .byte ∨ ty = .boolean) (hp : post (some (.inl x)) h) : bc_ATr d mi post pc loc [.inl x] h := by
  intro p l e s m args below meth c Z A H locs ls hX hA hW hP hS hL
  obtain ⟨hx, hb, hml, hret, hts, hown, hlk⟩ := hX
  have hq : ∀ t : State, t.heap = H → s.WarmedH t.vm → bc_Q Z post A args s (.returned (some (.int (Int32.ofInt x)))) t := fun t ht _ => ⟨⟨some (.inl x), h, rfl, hp, by rw [ht]; exact hP⟩, hS.F ht⟩
  exact W.zret hx hb (ty := ty) (by rw [hret, hr]) (by rcases hty with q | q | q <;> subst q <;> exact ht) hq hS.2.2 hd hlk
theorem bc_s_popI {x : Int} (hd : decode (bc_by mi) pc = .ok (.pop, 1)) (hn : bc_ATr d mi post (pc + 1) loc st h) : bc_ATr d mi post pc loc (.inl x :: st) h :=
  bc_go hn (fun _ _ _ _ _ _ _ _ _ _ _ _ _ _ _ _ _ hx hb _ _ w => lv_pop hx hb hd rfl w)
/-- a JDK method's words -/
def bc_jok (mj pc1 ps pn : Nat) : Bool := bc_inG pc1 (.code (bc_y mj) (bc_by mj) (bc_mL mj) (bc_rt mj)) && bc_inG ps (.static (bc_y mj)) && bc_inG pn (.initialized (bc_y mj).cls) && decide ((bc_y mj).cls ≠ "java/lang/invoke/MethodHandle") && decide ((bc_y mj).cls ≠ "java/lang/invoke/VarHandle") && decide ((parseMethodDescriptor (bc_y mj).desc).map (fun d => d.parameters.length) = some (bc_MT mj).2.2) && decide (bc_mL mj ≤ 40)
/-- a static call of a JDK method by a contract over values -/
theorem bc_w_static {d mi mj idx pos pc1 ps pn pc : Nat} {post P : Option bc_AV → bc_AH → Prop} {loc : List (Option bc_AV)} {h : bc_AH} {vals : List Value} {st' : List bc_AV} (hd : decode (bc_by mi) pc = .ok (.invokestatic idx, 3)) (hj : bc_jok mj pc1 ps pn = true) (hw : bc_inG pos (.methodLink (bc_y mi).cls idx (bc_y mj)) = true) (hlen : vals.length = (bc_MT mj).2.2) (hc : (st'.map bc_cat).sum ≤ 8)
    {p : Program} {l : Launch} {e : Env} {s : State} {m : MethodId} {args : Array Value} {below : List Frame} {meth : Method} {c : Code} {Z : bc_ZT} {A : Nat → Prop} {H : Heap} {locs : List Loc} {ls : Array Slot} (hX : bc_X mi p s m args meth c) (hA : ∀ q, s.heap.size ≤ q → A q) (hW : bc_WK Z A s s.heap) (hP : va_P Z.1 vwCl (bc_WS Z h) H) (hS : va_S A s.heap H locs) (hL : bc_L Z ls (bc_mL mi) loc)
    (hM : ∀ sz, Met l (bc_y mj) (bc_ws mj) (bc_rm d) (va_Pc vals (fun U => U.heap.size = sz ∧ bc_WK Z (bc_A Z sz) U U.heap ∧ va_P Z.1 vwCl (bc_WS Z h) U.heap)) (bc_Q Z P (bc_A Z sz)) 0 0 (bc_A Z sz))
    (hkk : ∀ r h', P r h' → bc_ATr d mi post (pc + 3) loc (r.toList ++ st') h') :
    W p l e (bc_rm (d + 1)) s m args below meth c H locs 0 0 (MQ below (bc_Q Z post A) args s 0 0 A) (F0 m pc ls (vals.reverse ++ st'.map (bc_cv Z.2.1))) := by
  have hX0 := hX
  obtain ⟨hx, hb, hml, hr, hts, hown, hlk⟩ := hX
  unfold bc_jok at hj
  simp only [Bool.and_eq_true, decide_eq_true_eq] at hj
  obtain ⟨⟨⟨⟨⟨⟨k1, k2⟩, k4⟩, k5⟩, k6⟩, k8⟩, k9⟩ := hj
  have hR : (bc_rm d).frames + 1 ≤ (bc_rm (d + 1)).frames ∧ 8 + (bc_mL mj + 11) + (bc_rm d).locals ≤ (bc_rm (d + 1)).locals := by
    unfold bc_rm
    exact ⟨by dsimp only; omega, by dsimp only; omega⟩
  have hroom : 2 * (F0 m pc ls (vals.reverse ++ st'.map (bc_cv Z.2.1))).monitorRoom + ((st'.map (bc_cv Z.2.1)).map fun v => v.category).sum ≤ 8 := lv_room (by rw [bc_catsum]; exact hc)
  have hfree : ∀ q, bc_A Z H.size q → A q := by
    intro q hq
    rcases hq with ⟨k, hk, rfl⟩ | hq
    · exact hW.2.2.2.1 k hk
    · exact hA q (Nat.le_trans hS.1 hq)
  have hblind : FrameBlind (va_Pc vals (fun U => U.heap.size = H.size ∧ bc_WK Z (bc_A Z H.size) U U.heap ∧ va_P Z.1 vwCl (bc_WS Z h) U.heap)) := by
    intro a U g mk q
    obtain ⟨q0, q1, q2, q3⟩ := q
    exact ⟨q0, q1, bc_WK_same (U := U.calling g mk a) (s := U) rfl q2, q3⟩
  have hpre : ∀ U : State, U.heap = H → s.WarmedH U.vm → va_Pc vals (fun U => U.heap.size = H.size ∧ bc_WK Z (bc_A Z H.size) U U.heap ∧ va_P Z.1 vwCl (bc_WS Z h) U.heap) vals.toArray U := by
    intro U hU hWm
    obtain ⟨-, b1, b2, b3⟩ := bc_pre (as := []) (h := h) hA hW hP hS U hU hWm
    exact ⟨rfl, b1, b2, b3⟩
  have hrun : va_Run p l e (bc_rm (d + 1)) s m args below meth c H locs 0 0 0 0 (F0 m pc ls (vals.reverse ++ st'.map (bc_cv Z.2.1))) (st'.map (bc_cv Z.2.1)) (bc_Q Z P (bc_A Z H.size) vals.toArray) (bc_A Z H.size) := by
    refine va_runS (Ts := bc_ws mi) (own := (bc_y mi).cls) (nL := bc_mL mi) ⟨hx, hb, hml, hown, hts⟩ (hM H.size) (va_cwS (bc_MT mj).2.2 hts (bc_GW_in (fun w hw' => ?_)) rfl rfl rfl ⟨k5, k6, k8⟩ hR) ⟨hblind, hpre⟩ rfl hlen hL.1 rfl hroom hd ⟨Nat.le_refl _, Nat.le_refl _⟩
    rcases List.mem_append.mp hw' with h1 | h1
    · rcases List.mem_cons.mp h1 with e | h1
      · rw [e]; exact bc_inG_mem hw
      · rcases List.mem_cons.mp h1 with e | h1
        · rw [e]; exact bc_inG_mem k2
        · rcases List.mem_cons.mp h1 with e | h1
          · rw [e]; exact bc_inG_mem k4
          · cases h1
    · rcases List.mem_cons.mp h1 with e | h1
      · rw [e]; exact bc_inG_mem k1
      · exact h1
  refine bc_callQ hrun hS (fun q _ hq => hfree q hq) hfree (fun r h' H1 locs1 hp1 hP1 hS1 => ?_)
  have := hkk r h' hp1 p l e s m args below meth c Z A H1 locs1 ls hX0 hA hW hP1 hS1 hL
  rw [List.map_append] at this
  cases r <;> exact this
end Str
