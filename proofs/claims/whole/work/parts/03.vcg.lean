/-! THE SYSTEM AS A PURE PICTURE: cells by number (bc_lay), ints as unbounded Int, references by the number of their cell -/
abbrev bc_AV : Type := Int ⊕ (Int ⊕ Nat)
abbrev bc_AH : Type := Nat → Nat → Int
abbrev bc_ZT : Type := va_G × (Nat → Nat) × ClassId × ClassId × ClassId
abbrev bc_En : Type := Nat × Instr × Nat × List Nat
def bc_GW : List Cond := lw_tbl.filter goodWord
def bc_isN (w : Cond) : Bool := match w with
  | .fieldLinkNest .. => true
  | .methodLinkNest .. => true
  | _ => false
def bc_NW : List Cond := lw_tbl.filter bc_isN
def bc_inG (i : Nat) (w : Cond) : Bool := decide (lw_tbl[i]? = some w) && goodWord w
def bc_inN (i : Nat) (w : Cond) : Bool := decide (lw_tbl[i]? = some w) && bc_isN w
theorem bc_inG_mem {i : Nat} {w : Cond} (h : bc_inG i w = true) : w ∈ bc_GW := by
  simp only [bc_inG, Bool.and_eq_true, decide_eq_true_eq] at h
  exact List.mem_filter.mpr ⟨List.mem_of_getElem? h.1, h.2⟩
theorem bc_inN_mem {i : Nat} {w : Cond} (h : bc_inN i w = true) : w ∈ bc_NW := by
  simp only [bc_inN, Bool.and_eq_true, decide_eq_true_eq] at h
  exact List.mem_filter.mpr ⟨List.mem_of_getElem? h.1, h.2⟩
theorem bc_GW_good {w : Cond} (h : w ∈ bc_GW) : (w.onTables && w.keeps) = true ∨ ∃ ty, w = .arrayClass ty := good_of_word (List.mem_filter.mp h).2
-- what an abstract value, field, cell is in the machine
def bc_cv (ad : Nat → Nat) (v : bc_AV) : Value := match v with
  | .inl x => .int (Int32.ofInt x)
  | .inr (.inl x) => .long (Int64.ofInt x)
  | .inr (.inr r) => .ref (ad r)
def bc_cat (v : bc_AV) : Nat := match v with
  | .inl _ => 1
  | .inr (.inl _) => 2
  | .inr (.inr _) => 1
theorem bc_cv_cat (ad : Nat → Nat) (v : bc_AV) : (bc_cv ad v).category = bc_cat v := by
  rcases v with x | x | x <;> rfl
def bc_fv (ad : Nat → Nat) (x : Int) (c : Nat × Nat) : Value := match c.1 with
  | 0 => .int (Int32.ofInt x)
  | 1 => .long (Int64.ofInt x)
  | _ => .ref (ad c.2)
def bc_fs (ad : Nat → Nat) (g : Nat → Int) (fs : List (Nat × Nat)) : List Value := (List.range fs.length).map (fun j => bc_fv ad (g j) (fs.getD j (9, 0)))
def bc_E (Z : bc_ZT) (h : bc_AH) (k : Nat) : va_E := match bc_lay k with
  | (0, ci, fs) => .inr (ci, bc_fs Z.2.1 (h k) fs)
  | (1, n, _) => .inl (Z.2.2.1, n, .inl (fun j => Int32.ofInt (h k j)))
  | (2, n, _) => .inl (Z.2.2.2.1, n, .inr (.inl (fun j => Int64.ofInt (h k j))))
  | (_, n, fs) => .inl (Z.2.2.2.2, n, .inr (.inr (.inr (.inr (fun j => some (Z.2.1 (fs.getD j (0, 0)).2))))))
def bc_WS (Z : bc_ZT) (h : bc_AH) : va_W := (List.range bc_NC).map (fun k => (Z.2.1 k, bc_E Z h k))
def bc_up (h : bc_AH) (k j : Nat) (v : Int) : bc_AH := fun a b => if a = k then (if b = j then v else h a b) else h a b
def bc_cpy (h : bc_AH) (a b n : Nat) : bc_AH := fun k j => if k = b then (if j < n then h a j else h k j) else h k j
theorem bc_fs_len (ad : Nat → Nat) (g : Nat → Int) (fs : List (Nat × Nat)) : (bc_fs ad g fs).length = fs.length := by simp [bc_fs]
theorem bc_fs_get (ad : Nat → Nat) (g : Nat → Int) {fs : List (Nat × Nat)} {k : Nat} (hk : k < fs.length) : (bc_fs ad g fs)[k]? = some (bc_fv ad (g k) (fs.getD k (9, 0))) := by
  simp [bc_fs, List.getElem?_map, List.getElem?_range hk]
theorem bc_fs_set (ad : Nat → Nat) (g : Nat → Int) {fs : List (Nat × Nat)} {k : Nat} (v : Int) {w : Value} (hw : bc_fv ad v (fs.getD k (9, 0)) = w) : (bc_fs ad g fs).set k w = bc_fs ad (fun j => if j = k then v else g j) fs := by
  apply List.ext_getElem?
  intro i
  rw [List.getElem?_set, bc_fs_len]
  by_cases hi : i < fs.length
  · rw [bc_fs_get ad _ hi, bc_fs_get ad _ hi]
    by_cases hki : k = i
    · subst hki
      simp [hi, ← hw]
    · have : ¬ i = k := fun q => hki q.symm
      simp [hki, this]
  · have h1 : (bc_fs ad g fs)[i]? = none := List.getElem?_eq_none (by rw [bc_fs_len]; omega)
    have h2 : (bc_fs ad (fun j => if j = k then v else g j) fs)[i]? = none := List.getElem?_eq_none (by rw [bc_fs_len]; omega)
    rw [h1, h2]
    by_cases hki : k = i
    · subst hki
      simp [hi]
    · simp [hki]
theorem bc_WS_len (Z : bc_ZT) (h : bc_AH) : (bc_WS Z h).length = bc_NC := by simp [bc_WS]
theorem bc_WS_get (Z : bc_ZT) (h : bc_AH) {k : Nat} (hk : k < bc_NC) : (bc_WS Z h)[k]? = some (Z.2.1 k, bc_E Z h k) := by
  simp [bc_WS, List.getElem?_map, List.getElem?_range hk]
theorem bc_WS_set (Z : bc_ZT) (h h' : bc_AH) (k : Nat) {E : va_E} (hE : bc_E Z h' k = E) (ho : ∀ j, j ≠ k → bc_E Z h' j = bc_E Z h j) : (bc_WS Z h).set k (Z.2.1 k, E) = bc_WS Z h' := by
  apply List.ext_getElem?
  intro i
  rw [List.getElem?_set, bc_WS_len]
  by_cases hi : i < bc_NC
  · rw [bc_WS_get Z _ hi, bc_WS_get Z _ hi]
    by_cases hki : k = i
    · subst hki
      simp [hi, hE]
    · simp [hki, ho i (fun q => hki q.symm)]
  · have h1 : (bc_WS Z h)[i]? = none := List.getElem?_eq_none (by rw [bc_WS_len]; omega)
    have h2 : (bc_WS Z h')[i]? = none := List.getElem?_eq_none (by rw [bc_WS_len]; omega)
    rw [h1, h2]
    by_cases hki : k = i
    · subst hki
      simp [hi]
    · simp [hki]
theorem bc_E_congr (Z : bc_ZT) {h h' : bc_AH} {k : Nat} (e : h' k = h k) : bc_E Z h' k = bc_E Z h k := by
  unfold bc_E
  rw [e]
theorem bc_E_up_ne (Z : bc_ZT) (h : bc_AH) {k j : Nat} (i : Nat) (v : Int) (hj : j ≠ k) : bc_E Z (bc_up h k i v) j = bc_E Z h j := bc_E_congr Z (by funext b; simp [bc_up, hj])
theorem bc_E_0 (Z : bc_ZT) (h : bc_AH) {k ci : Nat} {fs : List (Nat × Nat)} (e : bc_lay k = (0, ci, fs)) : bc_E Z h k = .inr (ci, bc_fs Z.2.1 (h k) fs) := by
  unfold bc_E; rw [e]; rfl
theorem bc_E_1 (Z : bc_ZT) (h : bc_AH) {k n : Nat} {fs : List (Nat × Nat)} (e : bc_lay k = (1, n, fs)) : bc_E Z h k = .inl (Z.2.2.1, n, .inl (fun j => Int32.ofInt (h k j))) := by
  unfold bc_E; rw [e]; rfl
theorem bc_E_3 (Z : bc_ZT) (h : bc_AH) {k n : Nat} {fs : List (Nat × Nat)} (e : bc_lay k = (3, n, fs)) : bc_E Z h k = .inl (Z.2.2.2.2, n, .inr (.inr (.inr (.inr (fun j => some (Z.2.1 (fs.getD j (0, 0)).2)))))) := by
  unfold bc_E; rw [e]; rfl
theorem bc_lay_out {k : Nat} (hk : ¬ k < bc_NC) : bc_lay k = (9, 0, []) := by
  unfold bc_NC at hk
  unfold bc_lay
  split <;> first | rfl | omega
theorem bc_lay_lt {k t n : Nat} {fs : List (Nat × Nat)} (h : bc_lay k = (t, n, fs)) (ht : t ≠ 9) : k < bc_NC := by
  by_cases hk : k < bc_NC
  · exact hk
  · rw [bc_lay_out hk] at h
    cases h
    exact absurd rfl ht
theorem bc_lay_n {k : Nat} (hk : k < bc_NC) : (bc_lay k).2.1 < 2000 := by
  have h : ∀ k, k < bc_NC → (bc_lay k).2.1 < 2000 := by decide +kernel
  exact h k hk
-- the script's and the literals' own cells are outside; tables
def bc_tys (Z : bc_ZT) : List (ClassId × FieldType) := [(Z.2.2.1, .int), (Z.2.2.2.1, .long), (Z.2.2.2.2, .object "BlockCross$Desk")]
def bc_lit (i : Nat) : Nat × String := match i with
  | 0 => (45, "mid")
  | 1 => (69, "buy")
  | _ => (71, "sell")
def bc_slen : List Nat := [3, 3, 4]
def bc_sbyt : List (List Int32) := [[109, 105, 100], [98, 117, 121], [115, 101, 108, 108]]
def bc_ST (Z : bc_ZT) (A : Nat → Prop) (U : State) (H0 : Heap) : Prop :=
  (∀ i, i < 3 → vk_R "BlockCross$Reader" (bc_lit i).1 (bc_lit i).2 (Z.2.1 (1000 + i)) U) ∧
  vk_S 3 bc_slen bc_sbyt (fun i => Z.2.1 (1000 + i)) (fun i => Z.2.1 (1100 + i)) A U H0 ∧
  va_Z "java/lang/String" "COMPACT_STRINGS" "Z" (.int 1) A U H0 ∧
  va_Zq "jdk/internal/util/Preconditions" "SIOOBE_FORMATTER" "Ljava/util/function/BiFunction;" A U H0
def bc_WK (Z : bc_ZT) (A : Nat → Prop) (U : State) (H0 : Heap) : Prop :=
  va_K Z.1 vwCl (bc_tys Z) U ∧ (∀ w ∈ bc_NW, va_Nw w U) ∧ (∀ i j, i < bc_NC → j < bc_NC → Z.2.1 i = Z.2.1 j → i = j) ∧ (∀ k, k < bc_NC → A (Z.2.1 k)) ∧ bc_ST Z A U H0
theorem bc_Nw_warm {w : Cond} (hw : bc_isN w = true) {s U : State} (hW : s.WarmedH U.vm) (h : va_Nw w s) : va_Nw w U := by
  cases w <;> first | exact va_Nw.warmF hW h | exact va_Nw.warmM hW h | (simp [bc_isN] at hw)
theorem bc_WK_warm {Z : bc_ZT} {A : Nat → Prop} {s U : State} {H0 : Heap} (hW : s.WarmedH U.vm) (h : bc_WK Z A s H0) : bc_WK Z A U H0 := by
  obtain ⟨h1, h2, h3, h4, h5, h6, h7, h8⟩ := h
  exact ⟨va_K.moved hW.alike h1, fun w hw => bc_Nw_warm (List.mem_filter.mp hw).2 hW (h2 w hw), h3, h4, fun i hi => (h5 i hi).warm hW, h6.moved hW.alike, h7.moved hW.alike, h8.moved hW.alike⟩
theorem bc_WK_same {Z : bc_ZT} {A : Nat → Prop} {s U : State} {H0 : Heap} (hW : U.vm = s.vm) (h : bc_WK Z A s H0) : bc_WK Z A U H0 := by
  obtain ⟨h1, h2, h3, h4, h5, h6, h7, h8⟩ := h
  have ha : s.vm.Alike U.vm := by rw [hW]; exact Vm.Alike.refl s.vm
  exact ⟨va_K.moved ha h1, fun w hw => (by
    have hn := (List.mem_filter.mp hw).2
    have hz := h2 w hw
    cases w <;> first | (exact va_Nw.same rfl hW.symm hz) | (simp [bc_isN] at hn)), h3, h4, fun i hi => (h5 i hi).same hW, h6.moved ha, h7.moved ha, h8.moved ha⟩
theorem bc_WK_kept {Z : bc_ZT} {A B : Nat → Prop} {s : State} {H0 H1 : Heap} (h : bc_WK Z A s H0) (hq : ∀ a : Nat, a < H0.size → ¬ A a → H1[a]? = H0[a]?) (hAB : ∀ q, B q → A q) (hB : ∀ k, k < bc_NC → B (Z.2.1 k)) : bc_WK Z B s H1 := by
  obtain ⟨h1, h2, h3, h4, h5, h6, h7, h8⟩ := h
  exact ⟨h1, h2, h3, hB, h5, (h6.kept hq).narrow hAB, (h7.kept hq).narrow hAB, (h8.kept hq).narrow hAB⟩
theorem bc_WK_D {Z : bc_ZT} {A : Nat → Prop} {U : State} {H0 : Heap} (h : bc_WK Z A U H0) (g : bc_AH) : va_D A (bc_WS Z g) := by
  obtain ⟨-, -, h3, h4, -⟩ := h
  have hb : ∀ (i : Nat) (q : Nat × va_E), (bc_WS Z g)[i]? = some q → i < bc_NC ∧ q.1 = Z.2.1 i := by
    intro i q hq
    have hi : i < bc_NC := by
      have := (List.getElem?_eq_some_iff.mp hq).1
      rwa [bc_WS_len] at this
    rw [bc_WS_get Z g hi] at hq
    cases hq
    exact ⟨hi, rfl⟩
  refine ⟨fun i j x y hx hy e => ?_, fun k q hq => ?_⟩
  · obtain ⟨a1, a2⟩ := hb i x hx
    obtain ⟨b1, b2⟩ := hb j y hy
    exact h3 i j a1 b1 (by rw [← a2, ← b2]; exact e)
  · obtain ⟨a1, a2⟩ := hb k q hq
    rw [a2]
    exact h4 k a1
-- a method, its words, its room, its contract
abbrev bc_y (mi : Nat) : MethodName := (bc_MT mi).1.1
abbrev bc_by (mi : Nat) : ByteArray := (bc_MT mi).1.2.1
abbrev bc_mL (mi : Nat) : Nat := (bc_MT mi).1.2.2.1
abbrev bc_rt (mi : Nat) : Option FieldType := (bc_MT mi).1.2.2.2
def bc_ws (mi : Nat) : List Cond := .code (bc_y mi) (bc_by mi) (bc_mL mi) (bc_rt mi) :: bc_GW
def bc_rm (d : Nat) : Room := { frames := d + 1, cells := 0, slots := 0, locals := 64 * (d + 1) }
def bc_A (Z : bc_ZT) (sz : Nat) : Nat → Prop := fun q => (∃ k, k < bc_NC ∧ q = Z.2.1 k) ∨ sz ≤ q
def bc_Q (Z : bc_ZT) (post : Option bc_AV → bc_AH → Prop) (A : Nat → Prop) : Array Value → State → Outcome → State → Prop := fun _ st oc t => (∃ (r : Option bc_AV) (h' : bc_AH), oc = .returned (r.map (bc_cv Z.2.1)) ∧ post r h' ∧ va_P Z.1 vwCl (bc_WS Z h') t.heap) ∧ va_F A st t
def bc_Pre (Z : bc_ZT) (sz : Nat) (args : List bc_AV) (h : bc_AH) : Array Value → State → Prop := va_Pc (args.map (bc_cv Z.2.1)) (fun U => U.heap.size = sz ∧ bc_WK Z (bc_A Z sz) U U.heap ∧ va_P Z.1 vwCl (bc_WS Z h) U.heap)
/-- the contract: method mi, at call depth d, from these arguments and this picture, returns r and leaves a picture h' with post r h' -/
def bc_OKr (d mi : Nat) (args : List bc_AV) (h : bc_AH) (post : Option bc_AV → bc_AH → Prop) : Prop :=
  ∀ (l : Launch) (Z : bc_ZT) (sz : Nat), Met l (bc_y mi) (bc_ws mi) (bc_rm d) (bc_Pre Z sz args h) (bc_Q Z post (bc_A Z sz)) 0 0 (bc_A Z sz)
def bc_L (Z : bc_ZT) (ls : Array Slot) (nL : Nat) (loc : List (Option bc_AV)) : Prop := ls.size = nL ∧ lv_wf ls ∧ ∀ (i : Nat) (v : bc_AV), loc[i]? = some (some v) → ls[i]? = some (.val (bc_cv Z.2.1 v))
def bc_X (mi : Nat) (p : Program) (s : State) (m : MethodId) (args : Array Value) (meth : Method) (c : Code) : Prop :=
  p.tables.exec = Jvm.exec ∧ c.code = bc_by mi ∧ c.maxLocals = bc_mL mi ∧ meth.sig.returnType = bc_rt mi ∧ (∀ w ∈ bc_ws mi, w.before args s = true) ∧ s.vm.findClass (bc_y mi).cls = some m.cls ∧ meth.locks = false
/-- inside method mi (its callees at depth d): from here it comes to its end, with post -/
def bc_ATr (d mi : Nat) (post : Option bc_AV → bc_AH → Prop) (pc : Nat) (loc : List (Option bc_AV)) (st : List bc_AV) (h : bc_AH) : Prop :=
  ∀ (p : Program) (l : Launch) (e : Env) (s : State) (m : MethodId) (args : Array Value) (below : List Frame) (meth : Method) (c : Code) (Z : bc_ZT) (A : Nat → Prop) (H : Heap) (locs : List Loc) (ls : Array Slot),
    bc_X mi p s m args meth c → (∀ q, s.heap.size ≤ q → A q) → bc_WK Z A s s.heap → va_P Z.1 vwCl (bc_WS Z h) H → va_S A s.heap H locs → bc_L Z ls (bc_mL mi) loc →
    W p l e (bc_rm (d + 1)) s m args below meth c H locs 0 0 (MQ below (bc_Q Z post A) args s 0 0 A) (F0 m pc ls (st.map (bc_cv Z.2.1)))
theorem bc_ATr_weak {d mi : Nat} {post : Option bc_AV → bc_AH → Prop} {pc : Nat} {loc loc' : List (Option bc_AV)} {st : List bc_AV} {h : bc_AH} (k : bc_ATr d mi post pc loc' st h) (hl : ∀ (i : Nat) (v : bc_AV), loc'[i]? = some (some v) → loc[i]? = some (some v)) : bc_ATr d mi post pc loc st h := by
  intro p l e s m args below meth c Z A H locs ls hX hA hW hP hS hL
  exact k p l e s m args below meth c Z A H locs ls hX hA hW hP hS ⟨hL.1, hL.2.1, fun i v hi => hL.2.2 i v (hl i v hi)⟩
