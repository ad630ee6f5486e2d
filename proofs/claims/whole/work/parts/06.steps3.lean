/-! fields, arrays, calls, ends, over bc_ATr -/
theorem bc_cl_in : ∀ (ci : Nat) (q : vw_C), vwCl[ci]? = some q → ∀ w ∈ u_ws q.1 q.2.1 q.2.2, w ∈ bc_GW := by
  have h : ∀ q ∈ vwCl, (u_ws q.1 q.2.1 q.2.2).all (fun w => decide (w ∈ lw_tbl) && goodWord w) = true := by
    refine List.forall_mem_cons.mpr ⟨by decide +kernel, List.forall_mem_cons.mpr ⟨by decide +kernel, List.forall_mem_cons.mpr ⟨by decide +kernel, List.forall_mem_cons.mpr ⟨by decide +kernel, List.forall_mem_cons.mpr ⟨by decide +kernel, List.forall_mem_cons.mpr ⟨by decide +kernel, List.forall_mem_cons.mpr ⟨by decide +kernel, List.forall_mem_cons.mpr ⟨by decide +kernel, fun _ h => by cases h⟩⟩⟩⟩⟩⟩⟩⟩
  intro ci q hq w hw
  have h1 := List.all_eq_true.mp (h q (List.mem_of_getElem? hq)) w hw
  simp only [Bool.and_eq_true, decide_eq_true_eq] at h1
  exact List.mem_filter.mpr h1
theorem bc_cl_ty : ∀ (ci : Nat) (q : vw_C), vwCl[ci]? = some q → (∃ ty0 : Nat → FieldType, ∀ k, k < q.2.2 → parseFieldDescriptor (q.2.1 k).2.2.1 = some (ty0 k)) ∧ ∀ a, a < q.2.2 → ∀ b, b < q.2.2 → a ≠ b → (q.2.1 a).2.1 ≠ (q.2.1 b).2.1 := by
  have h : ∀ q ∈ vwCl, (∃ ty0 : Nat → FieldType, ∀ k, k < q.2.2 → parseFieldDescriptor (q.2.1 k).2.2.1 = some (ty0 k)) ∧ ∀ a, a < q.2.2 → ∀ b, b < q.2.2 → a ≠ b → (q.2.1 a).2.1 ≠ (q.2.1 b).2.1 := by
    refine List.forall_mem_cons.mpr ⟨⟨⟨tyX0, tyX0_ok⟩, nmX0⟩, List.forall_mem_cons.mpr ⟨⟨⟨tyX1, tyX1_ok⟩, nmX1⟩, List.forall_mem_cons.mpr ⟨⟨⟨tyX2, tyX2_ok⟩, nmX2⟩, List.forall_mem_cons.mpr ⟨⟨⟨tyX3, tyX3_ok⟩, nmX3⟩, List.forall_mem_cons.mpr ⟨⟨⟨tyX4, tyX4_ok⟩, nmX4⟩, List.forall_mem_cons.mpr ⟨⟨⟨tyX5, tyX5_ok⟩, nmX5⟩, List.forall_mem_cons.mpr ⟨⟨⟨tyX6, tyX6_ok⟩, nmX6⟩, List.forall_mem_cons.mpr ⟨⟨⟨tyX7, tyX7_ok⟩, nmX7⟩, fun _ h => by cases h⟩⟩⟩⟩⟩⟩⟩⟩
  exact fun ci q hq => h q (List.mem_of_getElem? hq)
/-- the class of an object: its fields are as many as the layout tells -/
theorem bc_lay_cl : ∀ k, k < bc_NC → (bc_lay k).1 = 0 → ∃ q, vwCl[(bc_lay k).2.1]? = some q ∧ q.2.2 = (bc_lay k).2.2.length := by
  have h : ∀ k, k < bc_NC → (bc_lay k).1 = 0 → (vwCl[(bc_lay k).2.1]?).map (fun q => q.2.2) = some (bc_lay k).2.2.length := by decide +kernel
  intro k hk h0
  have h1 := h k hk h0
  cases hq : vwCl[(bc_lay k).2.1]? with
  | none => rw [hq] at h1; cases h1
  | some q => rw [hq] at h1; exact ⟨q, rfl, Option.some.inj h1⟩
/-- the word of a field's link: of its own class or of a nest mate -/
def bc_fw (own : String) (idx ci k pos nest : Nat) : Bool := match vwCl[ci]? with
  | some q => if nest = 0 then bc_inG pos (.fieldLink own idx (q.2.1 k).1 (q.2.1 k).2.1 (q.2.1 k).2.2.1) else bc_inN pos (.fieldLinkNest own idx (q.2.1 k).1 (q.2.1 k).2.1 (q.2.1 k).2.2.1 "BlockCross")
  | none => false
section Steps
variable {d mi : Nat} {post : Option bc_AV → bc_AH → Prop} {pc : Nat} {loc : List (Option bc_AV)} {st : List bc_AV} {h : bc_AH}
theorem bc_s_get {idx ci k pos nest r : Nat} {fs : List (Nat × Nat)} {v : bc_AV} (hd : decode (bc_by mi) pc = .ok (.getfield idx, 3)) (hw : bc_fw (bc_y mi).cls idx ci k pos nest = true) (hl : bc_lay r = (0, ci, fs)) (hk : k < fs.length)
    (hv : ∀ ad, bc_fv ad (h r k) (fs.getD k (9, 0)) = bc_cv ad v) (hn : bc_ATr d mi post (pc + 3) loc (v :: st) h) : bc_ATr d mi post pc loc (.inr (.inr r) :: st) h := by
  intro p l e s m args below meth c Z A H locs ls hX hA hW hP hS hL
  have hN := hn p l e s m args below meth c Z A H locs ls hX hA hW hP hS hL
  obtain ⟨hx, hb, hml, hr, hts, hown, hlk⟩ := hX
  have hr := bc_lay_lt hl (by decide)
  obtain ⟨q, hq, hqn⟩ := bc_lay_cl r hr (by rw [hl])
  rw [hl] at hq hqn
  have hge := bc_WS_get Z h hr
  rw [bc_E_0 Z h hl] at hge
  have hfg : (bc_fs Z.2.1 (h r) fs)[k]? = some (bc_cv Z.2.1 v) := by rw [bc_fs_get _ _ hk, hv]
  unfold bc_fw at hw
  simp only [hq] at hw
  obtain ⟨C, T, N⟩ := q
  dsimp only at hw hqn
  have hkN : k < N := by rw [hqn]; exact hk
  by_cases hne : nest = 0
  · rw [if_pos hne] at hw
    exact va_get (C := C) (T := T) (N := N) hx hb hts (fun w h' => List.mem_cons_of_mem _ (bc_cl_in ci _ hq w h')) hown hW.1 hP r hge hq k hkN (hts _ (List.mem_cons_of_mem _ (bc_inG_mem hw))) (fun _ h9 => h9) hfg hd hN
  · rw [if_neg hne] at hw
    exact va_getN (C := C) (T := T) (N := N) hx hb hts (fun w h' => List.mem_cons_of_mem _ (bc_cl_in ci _ hq w h')) hown hW.1 hP r hge hq k hkN (va_Nw.use rfl (hW.2.1 _ (bc_inN_mem hw))) (fun _ h9 => h9) hfg hd hN
/-- an int, or a long, is put: the field's descriptor, not final -/
def bc_fp (ci k : Nat) (ty : FieldType) : Bool := match vwCl[ci]? with
  | some q => decide (parseFieldDescriptor (q.2.1 k).2.2.1 = some ty) && !(q.2.1 k).2.2.2
  | none => false
theorem bc_s_put {idx ci k pos nest r : Nat} {fs : List (Nat × Nat)} {v : bc_AV} {x : Int} {ty : FieldType} (hd : decode (bc_by mi) pc = .ok (.putfield idx, 3)) (hw : bc_fw (bc_y mi).cls idx ci k pos nest = true) (hf : bc_fp ci k ty = true) (hl : bc_lay r = (0, ci, fs)) (hk : k < fs.length)
    (hv : ∀ ad, bc_fv ad x (fs.getD k (9, 0)) = bc_cv ad v) (hnar : ∀ ad, narrow ty (bc_cv ad v) = bc_cv ad v) (hfit : ∀ ad, fits ty (bc_cv ad v) = true) (hn : bc_ATr d mi post (pc + 3) loc st (bc_up h r k x)) : bc_ATr d mi post pc loc (v :: .inr (.inr r) :: st) h := by
  intro p l e s m args below meth c Z A H locs ls hX hA hW hP hS hL
  have hN := fun H1 locs1 hP1 hS1 => hn p l e s m args below meth c Z A H1 locs1 ls hX hA hW hP1 hS1 hL
  obtain ⟨hx, hb, hml, hr, hts, hown, hlk⟩ := hX
  have hr := bc_lay_lt hl (by decide)
  obtain ⟨q, hq, hqn⟩ := bc_lay_cl r hr (by rw [hl])
  rw [hl] at hq hqn
  have hge := bc_WS_get Z h hr
  rw [bc_E_0 Z h hl] at hge
  obtain ⟨⟨ty0, hty⟩, hnm⟩ := bc_cl_ty ci q hq
  unfold bc_fw at hw
  unfold bc_fp at hf
  dsimp only at hq
  simp only [hq, Bool.and_eq_true, decide_eq_true_eq] at hw hf
  obtain ⟨C, T, N⟩ := q
  dsimp only at hw hf hqn hty hnm
  have hkN : k < N := by rw [hqn]; exact hk
  have hset : (bc_WS Z h).set r (Z.2.1 r, .inr (ci, (bc_fs Z.2.1 (h r) fs).set k (bc_cv Z.2.1 v))) = bc_WS Z (bc_up h r k x) := by
    refine bc_WS_set Z h _ r ?_ (fun j hj => bc_E_up_ne Z h k x hj)
    rw [bc_E_0 Z _ hl, bc_fs_set Z.2.1 (h r) x (hv Z.2.1)]
    have e : bc_up h r k x r = fun j => if j = k then x else h r j := by funext b; simp [bc_up]
    rw [e]
  have hin : ∀ w ∈ u_ws C T N, w ∈ bc_ws mi := fun w h' => List.mem_cons_of_mem _ (bc_cl_in ci _ hq w h')
  have hfin : (T k).2.2.2 = false := by
    have := hf.2
    simpa using this
  have hlen : k < (bc_fs Z.2.1 (h r) fs).length := by rw [bc_fs_len]; exact hk
  by_cases hne : nest = 0
  · rw [if_pos hne] at hw
    exact va_put (C := C) (T := T) (N := N) hx hb hts hin ty0 hty hnm hown hW.1 hP (bc_WK_D hW h) hS r hge hq k hkN (hts _ (List.mem_cons_of_mem _ (bc_inG_mem hw))) (fun _ h9 => h9) hfin hf.1 (hnar Z.2.1) (hfit Z.2.1) hlen hd (fun H1 locs1 hP1 _ hS1 => hN H1 locs1 (by rw [← hset]; exact hP1) hS1)
  · rw [if_neg hne] at hw
    exact va_putN (C := C) (T := T) (N := N) hx hb hts hin ty0 hty hnm hown hW.1 hP (bc_WK_D hW h) hS r hge hq k hkN (va_Nw.use rfl (hW.2.1 _ (bc_inN_mem hw))) (fun _ h9 => h9) hfin hf.1 (hnar Z.2.1) (hfit Z.2.1) hlen hd (fun H1 locs1 hP1 _ hS1 => hN H1 locs1 (by rw [← hset]; exact hP1) hS1)
theorem bc_s_iald {r n : Nat} {fs : List (Nat × Nat)} {i : Int} (hd : decode (bc_by mi) pc = .ok (.iaload, 1)) (hl : bc_lay r = (1, n, fs)) (h0 : 0 ≤ i) (h1 : i < n) (hn : bc_ATr d mi post (pc + 1) loc (.inl (h r i.toNat) :: st) h) : bc_ATr d mi post pc loc (.inl i :: .inr (.inr r) :: st) h := by
  intro p l e s m args below meth c Z A H locs ls hX hA hW hP hS hL
  have hN := hn p l e s m args below meth c Z A H locs ls hX hA hW hP hS hL
  have hr := bc_lay_lt hl (by decide)
  have hn2 : n < 2000 := by have := bc_lay_n hr; rw [hl] at this; exact this
  have hge := bc_WS_get Z h hr
  rw [bc_E_1 Z h hl] at hge
  refine va_iald hX.1 hX.2.1 hW.1 hP r 0 hge rfl (bc_in h0 h1 hn2) hd ?_
  rw [bc_cl h0 (by omega)]
  exact hN
theorem bc_s_iast {r n : Nat} {fs : List (Nat × Nat)} {i x : Int} (hd : decode (bc_by mi) pc = .ok (.iastore, 1)) (hl : bc_lay r = (1, n, fs)) (h0 : 0 ≤ i) (h1 : i < n) (hn : bc_ATr d mi post (pc + 1) loc st (bc_up h r i.toNat x)) : bc_ATr d mi post pc loc (.inl x :: .inl i :: .inr (.inr r) :: st) h := by
  intro p l e s m args below meth c Z A H locs ls hX hA hW hP hS hL
  have hN := fun H1 locs1 hP1 hS1 => hn p l e s m args below meth c Z A H1 locs1 ls hX hA hW hP1 hS1 hL
  have hr := bc_lay_lt hl (by decide)
  have hn2 : n < 2000 := by have := bc_lay_n hr; rw [hl] at this; exact this
  have hge := bc_WS_get Z h hr
  rw [bc_E_1 Z h hl] at hge
  have hset : (bc_WS Z h).set r (Z.2.1 r, .inl (Z.2.2.1, n, .inl (upd (fun j => Int32.ofInt (h r j)) (Int32.ofInt i).toNatClampNeg (Int32.ofInt x)))) = bc_WS Z (bc_up h r i.toNat x) := by
    refine bc_WS_set Z h _ r ?_ (fun j hj => bc_E_up_ne Z h _ x hj)
    rw [bc_E_1 Z _ hl, bc_cl h0 (by omega)]
    have e : (fun j => Int32.ofInt (bc_up h r i.toNat x r j)) = upd (fun j => Int32.ofInt (h r j)) i.toNat (Int32.ofInt x) := by
      funext b
      unfold upd bc_up
      by_cases hb : b = i.toNat <;> simp [hb]
    rw [e]
  exact va_iast hX.1 hX.2.1 hW.1 hP (bc_WK_D hW h) hS r 0 hge rfl (bc_in h0 h1 hn2) hd (fun H1 locs1 hP1 _ hS1 => hN H1 locs1 (by rw [← hset]; exact hP1) hS1)
theorem bc_s_alen {r n : Nat} {fs : List (Nat × Nat)} (hd : decode (bc_by mi) pc = .ok (.arraylength, 1)) (hl : bc_lay r = (1, n, fs)) (hn : bc_ATr d mi post (pc + 1) loc (.inl (n : Int) :: st) h) : bc_ATr d mi post pc loc (.inr (.inr r) :: st) h := by
  intro p l e s m args below meth c Z A H locs ls hX hA hW hP hS hL
  have hN := hn p l e s m args below meth c Z A H locs ls hX hA hW hP hS hL
  have hr := bc_lay_lt hl (by decide)
  have hge := bc_WS_get Z h hr
  rw [bc_E_1 Z h hl] at hge
  exact va_alen hX.1 hX.2.1 hW.1 hP r 0 hge rfl rfl hd hN
theorem bc_s_aald {r n : Nat} {fs : List (Nat × Nat)} {i : Int} (hd : decode (bc_by mi) pc = .ok (.aaload, 1)) (hl : bc_lay r = (3, n, fs)) (h0 : 0 ≤ i) (h1 : i < n) (hn : bc_ATr d mi post (pc + 1) loc (.inr (.inr (fs.getD i.toNat (0, 0)).2) :: st) h) : bc_ATr d mi post pc loc (.inl i :: .inr (.inr r) :: st) h := by
  intro p l e s m args below meth c Z A H locs ls hX hA hW hP hS hL
  have hN := hn p l e s m args below meth c Z A H locs ls hX hA hW hP hS hL
  have hr := bc_lay_lt hl (by decide)
  have hn2 : n < 2000 := by have := bc_lay_n hr; rw [hl] at this; exact this
  have hge := bc_WS_get Z h hr
  rw [bc_E_3 Z h hl] at hge
  refine va_aldq hX.1 hX.2.1 hW.1 hP r 2 hge rfl (bc_in h0 h1 hn2) hd ?_
  rw [bc_cl h0 (by omega)]
  exact hN
theorem bc_s_ireturn {x : Int} (hd : decode (bc_by mi) pc = .ok (.ireturn, 1)) (hr : bc_rt mi = some .int ∨ (bc_rt mi = some .boolean ∧ (x = 0 ∨ x = 1))) (hp : post (some (.inl x)) h) : bc_ATr d mi post pc loc [.inl x] h := by
  intro p l e s m args below meth c Z A H locs ls hX hA hW hP hS hL
  obtain ⟨hx, hb, hml, hret, hts, hown, hlk⟩ := hX
  have hq : ∀ t : State, t.heap = H → s.WarmedH t.vm → bc_Q Z post A args s (.returned (some (.int (Int32.ofInt x)))) t := fun t ht _ => ⟨⟨some (.inl x), h, rfl, hp, by rw [ht]; exact hP⟩, hS.F ht⟩
  rcases hr with hr | ⟨hr, hx01⟩
  · exact W.iret hx hb (by rw [hret, hr]) hq hS.2.2 hd hlk
  · exact W.zret hx hb (ty := .boolean) (by rw [hret, hr]) (by rcases hx01 with q | q <;> subst q <;> decide +kernel) hq hS.2.2 hd hlk
theorem bc_s_return (hd : decode (bc_by mi) pc = .ok (.return_, 1)) (hr : bc_rt mi = none) (hp : post none h) : bc_ATr d mi post pc loc [] h := by
  intro p l e s m args below meth c Z A H locs ls hX hA hW hP hS hL
  obtain ⟨hx, hb, hml, hret, hts, hown, hlk⟩ := hX
  exact W.vret hx hb (by rw [hret, hr]) (fun t ht _ => ⟨⟨none, h, rfl, hp, by rw [ht]; exact hP⟩, hS.F ht⟩) hS.2.2 hd hlk
theorem bc_s_ldcS {idx i : Nat} (hd : decode (bc_by mi) pc = .ok (.ldc idx, 2)) (hi : i < 3) (hy : (bc_y mi).cls = "BlockCross$Reader") (hx : (bc_lit i).1 = idx) (hn : bc_ATr d mi post (pc + 2) loc (.inr (.inr (1000 + i)) :: st) h) : bc_ATr d mi post pc loc st h := by
  intro p l e s m args below meth c Z A H locs ls hX hA hW hP hS hL
  have hN := hn p l e s m args below meth c Z A H locs ls hX hA hW hP hS hL
  have hZ := hW.2.2.2.2.1 i hi
  rw [hx] at hZ
  exact va_ldcS hX.1 hX.2.1 (by rw [← hy]; exact hX.2.2.2.2.2.1) hZ hd hN
end Steps
