/-! Math.min, Math.max, System.arraycopy; the walk of a method as a proposition (bc_vc), and that it is sound -/
set_option maxRecDepth 100000 in
theorem bc_w_min : lw_tbl[354]? = some (Cond.code Lib.Math.min.name Lib.Math.min.code 2 (some .int)) := rfl
set_option maxRecDepth 100000 in
theorem bc_w_max : lw_tbl[550]? = some (Cond.code Lib.Math.max.name Lib.Math.max.code 2 (some .int)) := rfl
theorem bc_w_min2 : bc_inG 353 (.static Lib.Math.min.name) = true ∧ bc_inG 549 (.static Lib.Math.max.name) = true ∧ bc_inG 83 (.initialized "java/lang/Math") = true := by decide +kernel
theorem bc_w_cpy : bc_inG 456 (.static arraycopyName) = true ∧ bc_inG 457 (.native arraycopyName) = true ∧ bc_inG 88 (.initialized "java/lang/System") = true := by decide +kernel
theorem bc_gw {i : Nat} {w : Cond} (h : lw_tbl[i]? = some w) (hg : goodWord w = true) : w ∈ bc_GW := List.mem_filter.mpr ⟨List.mem_of_getElem? h, hg⟩
def bc_cs : List bc_AV → Nat
  | [] => 0
  | v :: r => bc_cat v + bc_cs r
theorem bc_cs_eq : ∀ st : List bc_AV, (st.map bc_cat).sum = bc_cs st := by
  intro st
  induction st with
  | nil => rfl
  | cons v r ih => simp [bc_cs, ih]
section Steps
variable {d mi : Nat} {post : Option bc_AV → bc_AH → Prop} {pc : Nat} {loc : List (Option bc_AV)} {st : List bc_AV} {h : bc_AH}
theorem bc_s_min {idx pos : Nat} {x y : Int} (hd : decode (bc_by mi) pc = .ok (.invokestatic idx, 3)) (hw : bc_inG pos (.methodLink (bc_y mi).cls idx Lib.Math.min.name) = true) (hx : bc_vr x) (hy : bc_vr y) (hc : bc_cs st ≤ 8) (hn : bc_ATr d mi post (pc + 3) loc (.inl (min x y) :: st) h) : bc_ATr d mi post pc loc (.inl y :: .inl x :: st) h := by
  intro p l e s m args below meth c Z A H locs ls hX hA hW hP hS hL
  have hN := hn p l e s m args below meth c Z A H locs ls hX hA hW hP hS hL
  obtain ⟨hx', hb, hml, hr, hts, hown, hlk⟩ := hX
  refine va_mmin hx' hb (by rw [hml, hL.1]) hown (hts _ (List.mem_cons_of_mem _ (bc_inG_mem hw))) (hts _ (List.mem_cons_of_mem _ (bc_inG_mem bc_w_min2.1))) (hts _ (List.mem_cons_of_mem _ (bc_inG_mem bc_w_min2.2.2))) (hts _ (List.mem_cons_of_mem _ (bc_gw bc_w_min rfl))) ?_ ?_ (Nat.le_refl _) (Nat.le_refl _) hd ?_
  · unfold bc_rm; dsimp only; omega
  · rw [bc_catsum, bc_cs_eq]; unfold bc_rm; dsimp only; omega
  · have e2 : (if Int32.ofInt y < Int32.ofInt x then Int32.ofInt y else Int32.ofInt x) = Int32.ofInt (min x y) := by
      by_cases q : y < x
      · rw [if_pos ((bc_lt hy hx).mpr q)]; congr 1; omega
      · rw [if_neg (fun z => q ((bc_lt hy hx).mp z))]; congr 1; omega
    rw [e2]; exact hN
theorem bc_s_max {idx pos : Nat} {x y : Int} (hd : decode (bc_by mi) pc = .ok (.invokestatic idx, 3)) (hw : bc_inG pos (.methodLink (bc_y mi).cls idx Lib.Math.max.name) = true) (hx : bc_vr x) (hy : bc_vr y) (hc : bc_cs st ≤ 8) (hn : bc_ATr d mi post (pc + 3) loc (.inl (max x y) :: st) h) : bc_ATr d mi post pc loc (.inl y :: .inl x :: st) h := by
  intro p l e s m args below meth c Z A H locs ls hX hA hW hP hS hL
  have hN := hn p l e s m args below meth c Z A H locs ls hX hA hW hP hS hL
  obtain ⟨hx', hb, hml, hr, hts, hown, hlk⟩ := hX
  refine va_mmax hx' hb (by rw [hml, hL.1]) hown (hts _ (List.mem_cons_of_mem _ (bc_inG_mem hw))) (hts _ (List.mem_cons_of_mem _ (bc_inG_mem bc_w_min2.2.1))) (hts _ (List.mem_cons_of_mem _ (bc_inG_mem bc_w_min2.2.2))) (hts _ (List.mem_cons_of_mem _ (bc_gw bc_w_max rfl))) ?_ ?_ (Nat.le_refl _) (Nat.le_refl _) hd ?_
  · unfold bc_rm; dsimp only; omega
  · rw [bc_catsum, bc_cs_eq]; unfold bc_rm; dsimp only; omega
  · have e2 : (if Int32.ofInt x < Int32.ofInt y then Int32.ofInt y else Int32.ofInt x) = Int32.ofInt (max x y) := by
      by_cases q : x < y
      · rw [if_pos ((bc_lt hx hy).mpr q)]; congr 1; omega
      · rw [if_neg (fun z => q ((bc_lt hx hy).mp z))]; congr 1; omega
    rw [e2]; exact hN
theorem bc_s_cpy {idx pos a b na nb : Nat} {fa fb : List (Nat × Nat)} {n : Int} (hd : decode (bc_by mi) pc = .ok (.invokestatic idx, 3)) (hw : bc_inG pos (.methodLink (bc_y mi).cls idx arraycopyName) = true) (h0 : 0 ≤ n) (ha : bc_lay a = (1, na, fa)) (hb : bc_lay b = (1, nb, fb)) (hna : n ≤ na) (hnb : n ≤ nb) (hc : bc_cs st ≤ 8) (hn : bc_ATr d mi post (pc + 3) loc st (bc_cpy h a b n.toNat)) : bc_ATr d mi post pc loc (.inl n :: .inl 0 :: .inr (.inr b) :: .inl 0 :: .inr (.inr a) :: st) h := by
  intro p l e s m args below meth c Z A H locs ls hX hA hW hP hS hL
  have hN := fun H1 locs1 hP1 hS1 => hn p l e s m args below meth c Z A H1 locs1 ls hX hA hW hP1 hS1 hL
  obtain ⟨hx', hb', hml, hr, hts, hown, hlk⟩ := hX
  have hra := bc_lay_lt ha (by decide)
  have hrb := bc_lay_lt hb (by decide)
  have hn2 : na < 2000 := by have := bc_lay_n hra; rw [ha] at this; exact this
  have hga := bc_WS_get Z h hra
  rw [bc_E_1 Z h ha] at hga
  have hgb := bc_WS_get Z h hrb
  rw [bc_E_1 Z h hb] at hgb
  have hnn : (Int32.ofInt n).toNatClampNeg = n.toNat := bc_cl h0 (by omega)
  have hz : (Int32.ofInt 0).toNatClampNeg = 0 := by decide +kernel
  have hz2 : ¬ Int32.ofInt 0 < 0 := by decide +kernel
  have hset : (bc_WS Z h).set b (Z.2.1 b, .inl (Z.2.2.1, nb, .inl (va_cpy (fun j => Int32.ofInt (h a j)) (fun j => Int32.ofInt (h b j)) (Int32.ofInt 0).toNatClampNeg (Int32.ofInt 0).toNatClampNeg (Int32.ofInt n).toNatClampNeg))) = bc_WS Z (bc_cpy h a b n.toNat) := by
    refine bc_WS_set Z h _ b ?_ (fun j hj => bc_E_congr Z (by funext q; simp [bc_cpy, hj]))
    rw [bc_E_1 Z _ hb, hnn, hz]
    have e2 : (fun j => Int32.ofInt (bc_cpy h a b n.toNat b j)) = va_cpy (fun j => Int32.ofInt (h a j)) (fun j => Int32.ofInt (h b j)) 0 0 n.toNat := by
      funext j
      unfold va_cpy bc_cpy
      by_cases hj : j < n.toNat <;> simp [hj]
    rw [e2]
  refine va_copyi hx' hb' (by rw [hml, hL.1]) hown (hts _ (List.mem_cons_of_mem _ (bc_inG_mem hw))) (hts _ (List.mem_cons_of_mem _ (bc_inG_mem bc_w_cpy.2.1))) (hts _ (List.mem_cons_of_mem _ (bc_inG_mem bc_w_cpy.1))) (hts _ (List.mem_cons_of_mem _ (bc_inG_mem bc_w_cpy.2.2))) hW.1 hP (bc_WK_D hW h) hS a b 0 0 hga hgb rfl rfl rfl hz2 hz2 ?_ ?_ ?_ (fun i _ => rfl) ?_ ?_ hd (fun H1 locs1 hP1 _ hS1 => hN H1 locs1 (by rw [← hset]; exact hP1) hS1)
  · rw [show (0 : Int32) = Int32.ofInt 0 from rfl, bc_lt ⟨by omega, by omega⟩ ⟨by omega, by omega⟩]; omega
  · rw [hnn, hz]; omega
  · rw [hnn, hz]; omega
  · unfold bc_rm; dsimp only; omega
  · rw [bc_catsum, bc_cs_eq]
    have : nativeFrameWords "java/lang/System" "arraycopy" 5 = 7 := by decide +kernel
    rw [this]; unfold bc_rm; dsimp only; omega
end Steps
-- what a step needs of locals, stack, layout
def bc_nth : List (Option bc_AV) → Nat → Option bc_AV
  | [], _ => none
  | v :: _, 0 => v
  | _ :: r, n + 1 => bc_nth r n
theorem bc_nth_eq : ∀ (loc : List (Option bc_AV)) (i : Nat) (v : bc_AV), bc_nth loc i = some v → loc[i]? = some (some v) := by
  intro loc
  induction loc with
  | nil => intro i v h; cases h
  | cons a r ih =>
    intro i v h
    cases i with
    | zero => simp [bc_nth] at h; simp [h]
    | succ i => simpa using ih i v h
def bc_set : List (Option bc_AV) → Nat → Option bc_AV → List (Option bc_AV)
  | [], _, _ => []
  | _ :: r, 0, v => v :: r
  | a :: r, n + 1, v => a :: bc_set r n v
theorem bc_set_eq : ∀ (loc : List (Option bc_AV)) (i : Nat) (v : Option bc_AV), bc_set loc i v = loc.set i v := by
  intro loc
  induction loc with
  | nil => intro i v; rfl
  | cons a r ih =>
    intro i v
    cases i with
    | zero => rfl
    | succ i => simp [bc_set, ih]
/-- no long lies just ahead of place i -/
def bc_nl (loc : List (Option bc_AV)) (i : Nat) : Prop := match i with
  | 0 => True
  | j + 1 => match bc_nth loc j with
    | some (.inr (.inl _)) => False
    | _ => True
theorem bc_nl_of {loc : List (Option bc_AV)} {i : Nat} (h : bc_nl loc i) : ∀ j, j + 1 = i → bc_lg loc[j]? = false := by
  intro j hj
  subst hj
  unfold bc_nl at h
  cases hq : loc[j]? with
  | none => rfl
  | some o =>
    cases o with
    | none => rfl
    | some v =>
      rcases v with x | x | x
      · rfl
      · exfalso
        have e : bc_nth loc j = some (.inr (.inl x)) := by
          clear h
          revert j
          induction loc with
          | nil => intro j hq; simp at hq
          | cons a r ih =>
            intro j hq
            cases j with
            | zero => simp at hq; simp [bc_nth, hq]
            | succ j => simp at hq; exact ih j hq
        dsimp only at h
        rw [e] at h
        exact h
      · rfl
def bc_fn : List (Nat × Nat) → Nat → Nat × Nat
  | [], _ => (9, 0)
  | a :: _, 0 => a
  | _ :: l, n + 1 => bc_fn l n
theorem bc_fn_eq : ∀ (l : List (Nat × Nat)) (k : Nat), bc_fn l k = l.getD k (9, 0) := by
  intro l
  induction l with
  | nil => intro k; rfl
  | cons a l ih =>
    intro k
    cases k with
    | zero => rfl
    | succ k => simp [bc_fn, ih]
theorem bc_fn_lt {l : List (Nat × Nat)} {k a b : Nat} (h : bc_fn l k = (a, b)) (ha : a ≠ 9) : k < l.length := by
  by_cases hk : k < l.length
  · exact hk
  · rw [bc_fn_eq, List.getD_eq_getElem?_getD, List.getElem?_eq_none (by omega)] at h
    cases h
    exact absurd rfl ha
def bc_k1 (st : List bc_AV) (k : Int → List bc_AV → Prop) : Prop := match st with
  | .inl x :: r => k x r
  | _ => False
def bc_k2 (st : List bc_AV) (k : Int → Int → List bc_AV → Prop) : Prop := match st with
  | .inl y :: .inl x :: r => k x y r
  | _ => False
def bc_kL (st : List bc_AV) (k : Int → List bc_AV → Prop) : Prop := match st with
  | .inr (.inl x) :: r => k x r
  | _ => False
def bc_kL2 (st : List bc_AV) (k : Int → Int → List bc_AV → Prop) : Prop := match st with
  | .inr (.inl y) :: .inr (.inl x) :: r => k x y r
  | _ => False
def bc_kR (st : List bc_AV) (k : Nat → List bc_AV → Prop) : Prop := match st with
  | .inr (.inr a) :: r => k a r
  | _ => False
def bc_kIR (st : List bc_AV) (k : Int → Nat → List bc_AV → Prop) : Prop := match st with
  | .inl i :: .inr (.inr a) :: r => k i a r
  | _ => False
def bc_kIIR (st : List bc_AV) (k : Int → Int → Nat → List bc_AV → Prop) : Prop := match st with
  | .inl x :: .inl i :: .inr (.inr a) :: r => k x i a r
  | _ => False
theorem bc_k1_of {st : List bc_AV} {k : Int → List bc_AV → Prop} (h : bc_k1 st k) : ∃ x r, st = .inl x :: r ∧ k x r := by
  unfold bc_k1 at h; split at h
  · exact ⟨_, _, rfl, h⟩
  · exact h.elim
theorem bc_k2_of {st : List bc_AV} {k : Int → Int → List bc_AV → Prop} (h : bc_k2 st k) : ∃ x y r, st = .inl y :: .inl x :: r ∧ k x y r := by
  unfold bc_k2 at h; split at h
  · exact ⟨_, _, _, rfl, h⟩
  · exact h.elim
theorem bc_kL_of {st : List bc_AV} {k : Int → List bc_AV → Prop} (h : bc_kL st k) : ∃ x r, st = .inr (.inl x) :: r ∧ k x r := by
  unfold bc_kL at h; split at h
  · exact ⟨_, _, rfl, h⟩
  · exact h.elim
theorem bc_kL2_of {st : List bc_AV} {k : Int → Int → List bc_AV → Prop} (h : bc_kL2 st k) : ∃ x y r, st = .inr (.inl y) :: .inr (.inl x) :: r ∧ k x y r := by
  unfold bc_kL2 at h; split at h
  · exact ⟨_, _, _, rfl, h⟩
  · exact h.elim
theorem bc_kR_of {st : List bc_AV} {k : Nat → List bc_AV → Prop} (h : bc_kR st k) : ∃ a r, st = .inr (.inr a) :: r ∧ k a r := by
  unfold bc_kR at h; split at h
  · exact ⟨_, _, rfl, h⟩
  · exact h.elim
theorem bc_kIR_of {st : List bc_AV} {k : Int → Nat → List bc_AV → Prop} (h : bc_kIR st k) : ∃ i a r, st = .inl i :: .inr (.inr a) :: r ∧ k i a r := by
  unfold bc_kIR at h; split at h
  · exact ⟨_, _, _, rfl, h⟩
  · exact h.elim
theorem bc_kIIR_of {st : List bc_AV} {k : Int → Int → Nat → List bc_AV → Prop} (h : bc_kIIR st k) : ∃ x i a r, st = .inl x :: .inl i :: .inr (.inr a) :: r ∧ k x i a r := by
  unfold bc_kIIR at h; split at h
  · exact ⟨_, _, _, _, rfl, h⟩
  · exact h.elim
/-- a field is read: of an object of class ci, place k -/
def bc_gf (L : Nat × Nat × List (Nat × Nat)) (ci k : Nat) (x : Int) (kk : bc_AV → Prop) : Prop := match L with
  | (0, c, fs) => c = ci ∧ (match bc_fn fs k with
    | (0, _) => kk (.inl x)
    | (1, _) => kk (.inr (.inl x))
    | (2, r) => kk (.inr (.inr r))
    | _ => False)
  | _ => False
/-- a field is put: tag 0 an int, 1 a long -/
def bc_pf (L : Nat × Nat × List (Nat × Nat)) (ci k tag : Nat) (kk : Prop) : Prop := match L with
  | (0, c, fs) => c = ci ∧ bc_fn fs k = (tag, 0) ∧ kk
  | _ => False
def bc_ar (L : Nat × Nat × List (Nat × Nat)) (kk : Nat → Prop) : Prop := match L with
  | (1, n, _) => kk n
  | _ => False
def bc_arr (L : Nat × Nat × List (Nat × Nat)) (kk : Nat → List (Nat × Nat) → Prop) : Prop := match L with
  | (3, n, fs) => kk n fs
  | _ => False
def bc_ldI (loc : List (Option bc_AV)) (i : Nat) (k : Int → Prop) : Prop := match bc_nth loc i with
  | some (.inl x) => k x
  | _ => False
def bc_ldL (loc : List (Option bc_AV)) (i : Nat) (k : Int → Prop) : Prop := match bc_nth loc i with
  | some (.inr (.inl x)) => k x
  | _ => False
def bc_ldR (loc : List (Option bc_AV)) (i : Nat) (k : Nat → Prop) : Prop := match bc_nth loc i with
  | some (.inr (.inr x)) => k x
  | _ => False
theorem bc_ldI_of {loc : List (Option bc_AV)} {i : Nat} {k : Int → Prop} (h : bc_ldI loc i k) : ∃ x, loc[i]? = some (some (.inl x)) ∧ k x := by
  unfold bc_ldI at h; split at h
  · exact ⟨_, bc_nth_eq _ _ _ (by assumption), h⟩
  · exact h.elim
theorem bc_ldL_of {loc : List (Option bc_AV)} {i : Nat} {k : Int → Prop} (h : bc_ldL loc i k) : ∃ x, loc[i]? = some (some (.inr (.inl x))) ∧ k x := by
  unfold bc_ldL at h; split at h
  · exact ⟨_, bc_nth_eq _ _ _ (by assumption), h⟩
  · exact h.elim
theorem bc_ldR_of {loc : List (Option bc_AV)} {i : Nat} {k : Nat → Prop} (h : bc_ldR loc i k) : ∃ x, loc[i]? = some (some (.inr (.inr x))) ∧ k x := by
  unfold bc_ldR at h; split at h
  · exact ⟨_, bc_nth_eq _ _ _ (by assumption), h⟩
  · exact h.elim
theorem bc_ar_of {L : Nat × Nat × List (Nat × Nat)} {kk : Nat → Prop} (h : bc_ar L kk) : ∃ n fs, L = (1, n, fs) ∧ kk n := by
  unfold bc_ar at h; split at h
  · exact ⟨_, _, rfl, h⟩
  · exact h.elim
theorem bc_arr_of {L : Nat × Nat × List (Nat × Nat)} {kk : Nat → List (Nat × Nat) → Prop} (h : bc_arr L kk) : ∃ n fs, L = (3, n, fs) ∧ kk n fs := by
  unfold bc_arr at h; split at h
  · exact ⟨_, _, rfl, h⟩
  · exact h.elim
theorem bc_gf_of {L : Nat × Nat × List (Nat × Nat)} {ci k : Nat} {x : Int} {kk : bc_AV → Prop} (h : bc_gf L ci k x kk) : ∃ fs v, L = (0, ci, fs) ∧ k < fs.length ∧ (∀ ad, bc_fv ad x (fs.getD k (9, 0)) = bc_cv ad v) ∧ kk v := by
  unfold bc_gf at h
  split at h
  · rename_i c fs
    obtain ⟨h1, h2⟩ := h
    subst h1
    split at h2
    · rename_i b hb; exact ⟨fs, _, rfl, bc_fn_lt hb (by decide), fun ad => by rw [← bc_fn_eq, hb]; rfl, h2⟩
    · rename_i b hb; exact ⟨fs, _, rfl, bc_fn_lt hb (by decide), fun ad => by rw [← bc_fn_eq, hb]; rfl, h2⟩
    · rename_i b hb; exact ⟨fs, _, rfl, bc_fn_lt hb (by decide), fun ad => by rw [← bc_fn_eq, hb]; rfl, h2⟩
    · exact h2.elim
  · exact h.elim
theorem bc_pf_of {L : Nat × Nat × List (Nat × Nat)} {ci k tag : Nat} {kk : Prop} (h : bc_pf L ci k tag kk) (ht : tag ≠ 9) : ∃ fs, L = (0, ci, fs) ∧ k < fs.length ∧ fs.getD k (9, 0) = (tag, 0) ∧ kk := by
  unfold bc_pf at h
  split at h
  · rename_i c fs
    obtain ⟨h1, h2, h3⟩ := h
    subst h1
    exact ⟨fs, rfl, bc_fn_lt h2 ht, by rw [← bc_fn_eq]; exact h2, h3⟩
  · exact h.elim
