/-! locals, branches, fields, arrays, calls, ends, over bc_ATr -/
def bc_lg (o : Option (Option bc_AV)) : Bool := match o with
  | some (some (.inr (.inl _))) => true
  | _ => false
def bc_lvo (ad : Nat → Nat) : Nat → List (Option bc_AV) → List (Nat × Value)
  | _, [] => []
  | i, none :: r => bc_lvo ad (i + 1) r
  | i, some v :: r => (i, bc_cv ad v) :: bc_lvo ad (i + 1) r
theorem bc_lvo_mem (ad : Nat → Nat) : ∀ (loc : List (Option bc_AV)) (b j : Nat) (v : bc_AV), loc[j]? = some (some v) → (b + j, bc_cv ad v) ∈ bc_lvo ad b loc := by
  intro loc
  induction loc with
  | nil => intro b j v h; simp at h
  | cons a r ih =>
    intro b j v h
    cases j with
    | zero =>
      simp at h
      subst h
      exact List.mem_cons_self
    | succ j =>
      simp at h
      have := ih (b + 1) j v h
      have e : b + (j + 1) = b + 1 + j := by omega
      rw [e]
      cases a with
      | none => exact this
      | some a => exact List.mem_cons_of_mem _ this
theorem bc_lvo_of (ad : Nat → Nat) : ∀ (loc : List (Option bc_AV)) (b : Nat) (q : Nat × Value), q ∈ bc_lvo ad b loc → ∃ (j : Nat) (v : bc_AV), q = (b + j, bc_cv ad v) ∧ loc[j]? = some (some v) := by
  intro loc
  induction loc with
  | nil => intro b q h; cases h
  | cons a r ih =>
    intro b q h
    have tail : q ∈ bc_lvo ad (b + 1) r → ∃ (j : Nat) (v : bc_AV), q = (b + j, bc_cv ad v) ∧ (a :: r)[j]? = some (some v) := by
      intro h
      obtain ⟨j, v, e, hj⟩ := ih (b + 1) q h
      exact ⟨j + 1, v, by rw [e]; congr 1; omega, by simpa using hj⟩
    cases a with
    | none => exact tail h
    | some a =>
      rcases List.mem_cons.mp h with e | h
      · exact ⟨0, a, e, rfl⟩
      · exact tail h
theorem bc_L_has {Z : bc_ZT} {ls : Array Slot} {nL : Nat} {loc : List (Option bc_AV)} (h : bc_L Z ls nL loc) : lv_has ls nL (bc_lvo Z.2.1 0 loc) := by
  refine ⟨h.1, h.2.1, fun q hq => ?_⟩
  obtain ⟨j, v, e, hj⟩ := bc_lvo_of Z.2.1 loc 0 q hq
  rw [e, Nat.zero_add]
  exact h.2.2 j v hj
theorem bc_L_set1 {Z : bc_ZT} {ls : Array Slot} {nL i : Nat} {loc : List (Option bc_AV)} {v : bc_AV} (hlg : ∀ j, j + 1 = i → bc_lg loc[j]? = false)
    (h : lv_has ls nL ((i, bc_cv Z.2.1 v) :: (bc_lvo Z.2.1 0 loc).filter (fun q => !(q.1 == i) && !(q.1 + 1 == i && q.2.category == 2)))) : bc_L Z ls nL (loc.set i (some v)) := by
  refine ⟨h.1, h.2.1, fun j u hj => ?_⟩
  rw [List.getElem?_set] at hj
  by_cases hij : i = j
  · subst hij
    simp at hj
    have e : v = u := by
      have := hj.2
      exact this
    rw [← e]
    exact h.2.2 (i, bc_cv Z.2.1 v) List.mem_cons_self
  · rw [if_neg hij] at hj
    refine h.2.2 (j, bc_cv Z.2.1 u) (List.mem_cons_of_mem _ (List.mem_filter.mpr ⟨?_, ?_⟩))
    · have := bc_lvo_mem Z.2.1 loc 0 j u hj
      rwa [Nat.zero_add] at this
    · have h1 : (j == i) = false := by simp; exact fun q => hij q.symm
      have h2 : (j + 1 == i && (bc_cv Z.2.1 u).category == 2) = false := by
        by_cases hj1 : j + 1 = i
        · have := hlg j hj1
          rw [hj] at this
          rcases u with x | x | x
          · simp [bc_cv, Value.category]
          · cases this
          · simp [bc_cv, Value.category]
        · simp [hj1]
      simp only [h1, h2]; rfl
section Steps
variable {d mi : Nat} {post : Option bc_AV → bc_AH → Prop} {pc : Nat} {loc : List (Option bc_AV)} {st : List bc_AV} {h : bc_AH}
theorem bc_s_iload {i : Nat} {x : Int} (hd : decode (bc_by mi) pc = .ok (.iload i, 2)) (hl : loc[i]? = some (some (.inl x))) (hn : bc_ATr d mi post (pc + 2) loc (.inl x :: st) h) : bc_ATr d mi post pc loc st h := by
  intro p l e s m args below meth c Z A H locs ls hX hA hW hP hS hL
  exact lv_iload hX.1 hX.2.1 hd (hL.2.2 i _ hl) (hn p l e s m args below meth c Z A H locs ls hX hA hW hP hS hL)
theorem bc_s_iload_n {k : Fin 4} {i : Nat} {x : Int} (hd : decode (bc_by mi) pc = .ok (.iload_n k, 1)) (hi : (k : Nat) = i) (hl : loc[i]? = some (some (.inl x))) (hn : bc_ATr d mi post (pc + 1) loc (.inl x :: st) h) : bc_ATr d mi post pc loc st h := by
  intro p l e s m args below meth c Z A H locs ls hX hA hW hP hS hL
  exact lv_iload_n hX.1 hX.2.1 hd hi (hL.2.2 i _ hl) (hn p l e s m args below meth c Z A H locs ls hX hA hW hP hS hL)
theorem bc_s_lload {i : Nat} {x : Int} (hd : decode (bc_by mi) pc = .ok (.lload i, 2)) (hl : loc[i]? = some (some (.inr (.inl x)))) (hn : bc_ATr d mi post (pc + 2) loc (.inr (.inl x) :: st) h) : bc_ATr d mi post pc loc st h := by
  intro p l e s m args below meth c Z A H locs ls hX hA hW hP hS hL
  exact lv_lload hX.1 hX.2.1 hd (hL.2.2 i _ hl) (hn p l e s m args below meth c Z A H locs ls hX hA hW hP hS hL)
theorem bc_s_aload {i : Nat} {x : Nat} (hd : decode (bc_by mi) pc = .ok (.aload i, 2)) (hl : loc[i]? = some (some (.inr (.inr x)))) (hn : bc_ATr d mi post (pc + 2) loc (.inr (.inr x) :: st) h) : bc_ATr d mi post pc loc st h := by
  intro p l e s m args below meth c Z A H locs ls hX hA hW hP hS hL
  exact lv_aload hX.1 hX.2.1 hd (hL.2.2 i _ hl) (hn p l e s m args below meth c Z A H locs ls hX hA hW hP hS hL)
theorem bc_s_aload_n {k : Fin 4} {i : Nat} {x : Nat} (hd : decode (bc_by mi) pc = .ok (.aload_n k, 1)) (hi : (k : Nat) = i) (hl : loc[i]? = some (some (.inr (.inr x)))) (hn : bc_ATr d mi post (pc + 1) loc (.inr (.inr x) :: st) h) : bc_ATr d mi post pc loc st h := by
  intro p l e s m args below meth c Z A H locs ls hX hA hW hP hS hL
  exact lv_aload_n hX.1 hX.2.1 hd hi (hL.2.2 i _ hl) (hn p l e s m args below meth c Z A H locs ls hX hA hW hP hS hL)
theorem bc_s_istore {i : Nat} {x : Int} (hd : decode (bc_by mi) pc = .ok (.istore i, 2)) (hi : i < bc_mL mi) (hlg : ∀ j, j + 1 = i → bc_lg loc[j]? = false) (hn : bc_ATr d mi post (pc + 2) (loc.set i (some (.inl x))) st h) : bc_ATr d mi post pc loc (.inl x :: st) h := by
  intro p l e s m args below meth c Z A H locs ls hX hA hW hP hS hL
  exact lv_istore hX.1 hX.2.1 hd (bc_L_has hL) hi rfl (fun ls' h' => hn p l e s m args below meth c Z A H locs ls' hX hA hW hP hS (bc_L_set1 hlg h'))
theorem bc_s_istore_n {k : Fin 4} {i : Nat} {x : Int} (hd : decode (bc_by mi) pc = .ok (.istore_n k, 1)) (hk : (k : Nat) = i) (hi : i < bc_mL mi) (hlg : ∀ j, j + 1 = i → bc_lg loc[j]? = false) (hn : bc_ATr d mi post (pc + 1) (loc.set i (some (.inl x))) st h) : bc_ATr d mi post pc loc (.inl x :: st) h := by
  intro p l e s m args below meth c Z A H locs ls hX hA hW hP hS hL
  exact lv_istore_n hX.1 hX.2.1 hd hk (bc_L_has hL) hi rfl (fun ls' h' => hn p l e s m args below meth c Z A H locs ls' hX hA hW hP hS (bc_L_set1 hlg h'))
theorem bc_s_iinc {i : Nat} {n x : Int} (hd : decode (bc_by mi) pc = .ok (.iinc i n, 3)) (hl : loc[i]? = some (some (.inl x))) (hi : i < bc_mL mi) (hlg : ∀ j, j + 1 = i → bc_lg loc[j]? = false) (hn : bc_ATr d mi post (pc + 3) (loc.set i (some (.inl (x + n)))) st h) : bc_ATr d mi post pc loc st h := by
  intro p l e s m args below meth c Z A H locs ls hX hA hW hP hS hL
  have hm := bc_lvo_mem Z.2.1 loc 0 i _ hl
  rw [Nat.zero_add] at hm
  obtain ⟨k, hk⟩ := List.getElem?_of_mem hm
  exact lv_iinc (k := k) hX.1 hX.2.1 hd (bc_L_has hL) hk (by rw [← Int32.ofInt_add]) hi rfl (fun ls' h' => hn p l e s m args below meth c Z A H locs ls' hX hA hW hP hS (bc_L_set1 (v := .inl (x + n)) hlg h'))
/-- a long is stored: the two places -/
theorem bc_s_lstore {i : Nat} {x : Int} (hd : decode (bc_by mi) pc = .ok (.lstore i, 2)) (hi : i + 1 < bc_mL mi) (hlg : ∀ j, j + 1 = i → bc_lg loc[j]? = false) (hn : bc_ATr d mi post (pc + 2) ((loc.set (i + 1) none).set i (some (.inr (.inl x)))) st h) : bc_ATr d mi post pc loc (.inr (.inl x) :: st) h := by
  intro p l e s m args below meth c Z A H locs ls hX hA hW hP hS hL
  refine lv_lstore hX.1 hX.2.1 hd (bc_L_has hL) hi rfl (fun ls' h' => hn p l e s m args below meth c Z A H locs ls' hX hA hW hP hS ⟨h'.1, h'.2.1, fun j u hj => ?_⟩)
  rw [List.getElem?_set] at hj
  by_cases hij : i = j
  · subst hij
    simp at hj
    rw [← hj.2]
    exact h'.2.2 (i, Value.long (Int64.ofInt x)) List.mem_cons_self
  · rw [if_neg hij, List.getElem?_set] at hj
    by_cases hij2 : i + 1 = j
    · subst hij2
      simp at hj
    · rw [if_neg hij2] at hj
      refine h'.2.2 (j, bc_cv Z.2.1 u) (List.mem_cons_of_mem _ (List.mem_filter.mpr ⟨?_, ?_⟩))
      · have := bc_lvo_mem Z.2.1 loc 0 j u hj
        rwa [Nat.zero_add] at this
      · have h1 : (j == i) = false := by simp; exact fun q => hij q.symm
        have h3 : (j == i + 1) = false := by simp; exact fun q => hij2 q.symm
        have h2 : (j + 1 == i && (bc_cv Z.2.1 u).category == 2) = false := by
          by_cases hj1 : j + 1 = i
          · have := hlg j hj1
            rw [hj] at this
            rcases u with x | x | x
            · simp [bc_cv, Value.category]
            · cases this
            · simp [bc_cv, Value.category]
          · simp [hj1]
        simp only [h1, h2, h3]; rfl
-- branches
def bc_cc (k : Jvm.ClassFile.Cond) (x y : Int) : Prop := match k with
  | .eq => x = y
  | .ne => ¬ x = y
  | .lt => x < y
  | .ge => y ≤ x
  | .gt => y < x
  | .le => x ≤ y
theorem bc_s_icmp {k : Jvm.ClassFile.Cond} {off : Int} {t : Nat} {x y : Int} (hd : decode (bc_by mi) pc = .ok (.if_icmp k off, 3)) (ht : (pc : Int) + off = (t : Int)) (hx : bc_vr x) (hy : bc_vr y) (h1 : bc_cc k x y → bc_ATr d mi post t loc st h) (h2 : ¬ bc_cc k x y → bc_ATr d mi post (pc + 3) loc st h) : bc_ATr d mi post pc loc (.inl y :: .inl x :: st) h := by
  intro p l e s m args below meth c Z A H locs ls hX hA hW hP hS hL
  have k1 := fun q => h1 q p l e s m args below meth c Z A H locs ls hX hA hW hP hS hL
  have k2 := fun q => h2 q p l e s m args below meth c Z A H locs ls hX hA hW hP hS hL
  have e1 := bc_eq hx hy
  have e2 := bc_lt hx hy
  have e3 := bc_lt hy hx
  have e4 := bc_le hx hy
  have e5 := bc_le hy hx
  cases k with
  | eq => exact lv_icmp_eq hX.1 hX.2.1 hd ht (fun q => k1 (e1.mp q)) (fun q => k2 (fun z => q (e1.mpr z)))
  | ne => exact lv_icmp_ne hX.1 hX.2.1 hd ht (fun q => k1 (fun z => q (e1.mpr z))) (fun q => k2 (fun z => z (e1.mp q)))
  | lt => exact lv_icmp_lt hX.1 hX.2.1 hd ht (fun q => k1 (e2.mp q)) (fun q => k2 (fun z => q (e2.mpr z)))
  | ge => exact lv_icmp_ge hX.1 hX.2.1 hd ht (fun q => k1 (e5.mp q)) (fun q => k2 (fun z => q (e5.mpr z)))
  | gt => exact lv_icmp_gt hX.1 hX.2.1 hd ht (fun q => k1 (e3.mp q)) (fun q => k2 (fun z => q (e3.mpr z)))
  | le => exact lv_icmp_le hX.1 hX.2.1 hd ht (fun q => k1 (e4.mp q)) (fun q => k2 (fun z => q (e4.mpr z)))
theorem bc_s_if {k : Jvm.ClassFile.Cond} {off : Int} {t : Nat} {x : Int} (hd : decode (bc_by mi) pc = .ok (.ifCond k off, 3)) (ht : (pc : Int) + off = (t : Int)) (hx : bc_vr x) (h1 : bc_cc k x 0 → bc_ATr d mi post t loc st h) (h2 : ¬ bc_cc k x 0 → bc_ATr d mi post (pc + 3) loc st h) : bc_ATr d mi post pc loc (.inl x :: st) h := by
  intro p l e s m args below meth c Z A H locs ls hX hA hW hP hS hL
  have k1 := fun q => h1 q p l e s m args below meth c Z A H locs ls hX hA hW hP hS hL
  have k2 := fun q => h2 q p l e s m args below meth c Z A H locs ls hX hA hW hP hS hL
  have hy : bc_vr 0 := ⟨by omega, by omega⟩
  have e1 := bc_eq hx hy
  have e2 := bc_lt hx hy
  have e3 := bc_lt hy hx
  have e4 := bc_le hx hy
  have e5 := bc_le hy hx
  cases k with
  | eq => exact lv_if_eq hX.1 hX.2.1 hd ht (fun q => k1 (e1.mp q)) (fun q => k2 (fun z => q (e1.mpr z)))
  | ne => exact lv_if_ne hX.1 hX.2.1 hd ht (fun q => k1 (fun z => q (e1.mpr z))) (fun q => k2 (fun z => z (e1.mp q)))
  | lt => exact lv_if_lt hX.1 hX.2.1 hd ht (fun q => k1 (e2.mp q)) (fun q => k2 (fun z => q (e2.mpr z)))
  | ge => exact lv_if_ge hX.1 hX.2.1 hd ht (fun q => k1 (e5.mp q)) (fun q => k2 (fun z => q (e5.mpr z)))
  | gt => exact lv_if_gt hX.1 hX.2.1 hd ht (fun q => k1 (e3.mp q)) (fun q => k2 (fun z => q (e3.mpr z)))
  | le => exact lv_if_le hX.1 hX.2.1 hd ht (fun q => k1 (e4.mp q)) (fun q => k2 (fun z => q (e4.mpr z)))
/-- the cases of a switch, from lo on: each its target -/
def bc_sw (J : Nat → Prop) (x : Int) : Int → List Nat → Prop
  | _, [] => True
  | lo, t :: ts => (x = lo → J t) ∧ bc_sw J x (lo + 1) ts
theorem bc_sw_at {J : Nat → Prop} {x : Int} : ∀ (ts : List Nat) (lo : Int) (k : Nat) (t : Nat), bc_sw J x lo ts → ts[k]? = some t → x = lo + k → J t := by
  intro ts
  induction ts with
  | nil => intro lo k t _ h; simp at h
  | cons a ts ih =>
    intro lo k t hs hk hx
    cases k with
    | zero => simp at hk; subst hk; exact hs.1 (by omega)
    | succ k => simp at hk; exact ih (lo + 1) k t hs.2 hk (by omega)
def bc_swok (pc : Nat) : List Int → List Nat → Bool
  | [], [] => true
  | o :: os, t :: ts => decide ((pc : Int) + o = (t : Int)) && bc_swok pc os ts
  | _, _ => false
theorem bc_swok_at {pc : Nat} : ∀ (os : List Int) (ts : List Nat), bc_swok pc os ts = true → ∀ (k t : Nat), ts[k]? = some t → ∃ o, os[k]? = some o ∧ (pc : Int) + o = (t : Int) := by
  intro os
  induction os with
  | nil => intro ts h k t hk; cases ts with
    | nil => simp at hk
    | cons _ _ => cases h
  | cons o os ih =>
    intro ts h k t hk
    cases ts with
    | nil => cases h
    | cons t0 ts =>
      simp only [bc_swok, Bool.and_eq_true, decide_eq_true_eq] at h
      cases k with
      | zero => simp at hk; subst hk; exact ⟨o, rfl, h.1⟩
      | succ k => simp at hk; obtain ⟨o', a, b⟩ := ih ts h.2 k t hk; exact ⟨o', by simpa using a, b⟩
theorem bc_s_switch {df lo hi : Int} {offs : Array Int} {len : Nat} {x : Int} {td : Nat} {ts : List Nat} (hd : decode (bc_by mi) pc = .ok (.tableswitch df lo hi offs, len)) (hx : bc_vr x) (hdf : (pc : Int) + df = (td : Int)) (hok : bc_swok pc offs.toList ts = true) (hlen : hi - lo + 1 = (ts.length : Int))
    (hs : bc_sw (fun t => bc_ATr d mi post t loc st h) x lo ts) (ho : (x < lo ∨ hi < x) → bc_ATr d mi post td loc st h) : bc_ATr d mi post pc loc (.inl x :: st) h := by
  intro p l e s m args below meth c Z A H locs ls hX hA hW hP hS hL
  by_cases hin : x < lo ∨ hi < x
  · exact lv_tableOut hX.1 hX.2.1 hd (by rw [bc_ti hx]; exact hin) hdf (ho hin p l e s m args below meth c Z A H locs ls hX hA hW hP hS hL)
  · have h1 : ¬ x < lo := fun q => hin (Or.inl q)
    have h2 : ¬ hi < x := fun q => hin (Or.inr q)
    have hk : (x - lo).toNat < ts.length := by omega
    obtain ⟨o, a, b⟩ := bc_swok_at offs.toList ts hok (x - lo).toNat _ (List.getElem?_eq_getElem hk)
    have hat := bc_sw_at ts lo (x - lo).toNat _ hs (List.getElem?_eq_getElem hk) (by omega)
    exact lv_tableIn hX.1 hX.2.1 hd (by rw [bc_ti hx]; exact h1) (by rw [bc_ti hx]; exact h2) (off := o) (by rw [bc_ti hx]; simpa using a) b (hat p l e s m args below meth c Z A H locs ls hX hA hW hP hS hL)
end Steps
