/-! String.length, charAt and what they call -/
section Str
variable {d mi : Nat} {post : Option bc_AV → bc_AH → Prop} {pc : Nat} {loc : List (Option bc_AV)} {st : List bc_AV} {h : bc_AH}
def bc_kok (mj pc1 pi psel pn : Nat) : Bool := bc_inG pc1 (.code (bc_y mj) (bc_by mj) (bc_mL mj) (bc_rt mj)) && bc_inG pi (.instanceMethod (bc_y mj)) && bc_inG psel (.selects (bc_y mj).cls (bc_y mj) (bc_y mj)) && bc_inG pn (.initialized (bc_y mj).cls) && decide ((bc_y mj).cls ≠ "java/lang/invoke/MethodHandle") && decide ((bc_y mj).cls ≠ "java/lang/invoke/VarHandle") && decide ((parseMethodDescriptor (bc_y mj).desc).map (fun d => d.parameters.length) = some (bc_MT mj).2.2) && decide (bc_mL mj ≤ 40) && decide ((bc_y mj).cls = "java/lang/String")
/-- a call on a literal -/
theorem bc_s_vstr {mj idx pos pc1 pi psel pn i : Nat} {P : Option bc_AV → bc_AH → Prop} {as st' : List bc_AV} (hi : i < 3) (hd : decode (bc_by mi) pc = .ok (.invokevirtual idx, 3)) (hj : bc_kok mj pc1 pi psel pn = true) (hw : bc_inG pos (.methodLink (bc_y mi).cls idx (bc_y mj)) = true) (hlen : as.length = (bc_MT mj).2.2) (hst : st = as.reverse ++ .inr (.inr (1000 + i)) :: st') (hc : (st'.map bc_cat).sum ≤ 8)
    (hM : bc_OKr d mj (.inr (.inr (1000 + i)) :: as) h P) (hkk : ∀ r h', P r h' → bc_ATr d mi post (pc + 3) loc (r.toList ++ st') h') : bc_ATr d mi post pc loc st h := by
  intro p l e s m args below meth c Z A H locs ls hX hA hW hP hS hL
  have hX0 := hX
  obtain ⟨hx, hb, hml, hr, hts, hown, hlk⟩ := hX
  unfold bc_kok at hj
  simp only [Bool.and_eq_true, decide_eq_true_eq] at hj
  obtain ⟨⟨⟨⟨⟨⟨⟨⟨k1, k2⟩, k3⟩, k4⟩, k5⟩, k6⟩, k8⟩, k9⟩, kS⟩ := hj
  have hR : (bc_rm d).frames + 1 ≤ (bc_rm (d + 1)).frames ∧ 8 + (bc_mL mj + 11) + (bc_rm d).locals ≤ (bc_rm (d + 1)).locals := by
    unfold bc_rm
    exact ⟨by dsimp only; omega, by dsimp only; omega⟩
  have hst2 : st.map (bc_cv Z.2.1) = (as.map (bc_cv Z.2.1)).reverse ++ .ref (Z.2.1 (1000 + i)) :: st'.map (bc_cv Z.2.1) := by rw [hst]; simp; rfl
  have hlen2 : (as.map (bc_cv Z.2.1)).length = (bc_MT mj).2.2 := by simp [hlen]
  have hroom : 2 * (F0 m pc ls (st.map (bc_cv Z.2.1))).monitorRoom + ((st'.map (bc_cv Z.2.1)).map fun v => v.category).sum ≤ 8 := lv_room (by rw [bc_catsum]; exact hc)
  have hfree : ∀ q, bc_A Z H.size q → A q := by
    intro q hq
    rcases hq with ⟨k, hk, rfl⟩ | hq
    · exact hW.2.2.2.1 k hk
    · exact hA q (Nat.le_trans hS.1 hq)
  have hrecv : ∃ cell : Cell, H[Z.2.1 (1000 + i)]? = some cell ∧ cell.vm.isStatics = false ∧ s.vm.findClass (bc_y mj).cls = some cell.cls := by
    rw [kS]
    exact vk_recv (adK := fun j => Z.2.1 (1000 + j)) (i := i) hW.2.2.2.2.2.1 hi hS
  have hpre : PreV s H (bc_y mj).cls (Z.2.1 (1000 + i)) (bc_Pre Z H.size (.inr (.inr (1000 + i)) :: as) h) (as.map (bc_cv Z.2.1)) := ⟨bc_blind Z _ _ h, hrecv, bc_pre (as := .inr (.inr (1000 + i)) :: as) hA hW hP hS⟩
  have hrun : va_Run p l e (bc_rm (d + 1)) s m args below meth c H locs 0 0 0 0 (F0 m pc ls (st.map (bc_cv Z.2.1))) (st'.map (bc_cv Z.2.1)) (bc_Q Z P (bc_A Z H.size) (Value.ref (Z.2.1 (1000 + i)) :: as.map (bc_cv Z.2.1)).toArray) (bc_A Z H.size) := by
    refine va_runV (Ts := bc_ws mi) (own := (bc_y mi).cls) (nL := bc_mL mi) ⟨hx, hb, hml, hown, hts⟩ (hM l Z H.size) (cwV (bc_MT mj).2.2 hts (bc_GW_in (fun w hw' => ?_)) rfl rfl rfl ⟨rfl, k5, k6, k8⟩ hR) hpre rfl hlen2 hL.1 hst2 hroom hd ⟨Nat.le_refl _, Nat.le_refl _⟩
    rcases List.mem_append.mp hw' with h1 | h1
    · rcases List.mem_cons.mp h1 with e | h1
      · rw [e]; exact bc_inG_mem hw
      · rcases List.mem_cons.mp h1 with e | h1
        · rw [e]; exact bc_inG_mem k2
        · rcases List.mem_cons.mp h1 with e | h1
          · rw [e]; exact bc_inG_mem k3
          · rcases List.mem_cons.mp h1 with e | h1
            · rw [e]; exact bc_inG_mem k4
            · cases h1
    · rcases List.mem_cons.mp h1 with e | h1
      · rw [e]; exact bc_inG_mem k1
      · exact h1
  refine bc_callQ hrun hS (fun q _ hq => hfree q hq) hfree (fun r h' H1 locs1 hp1 hP1 hS1 => ?_)
  have := hkk r h' hp1 p l e s m args below meth c Z A H1 locs1 ls hX0 hA hW hP1 hS1 hL
  rw [List.map_append] at this
  cases r <;> exact this
theorem bc_j149 : bc_jok 149 409 408 86 = true := by decide +kernel
theorem bc_j143 : bc_jok 143 404 403 84 = true := by decide +kernel
theorem bc_j144 : bc_jok 144 401 400 85 = true := by decide +kernel
theorem bc_k139 : bc_kok 139 384 382 383 84 = true := by decide +kernel
theorem bc_k140 : bc_kok 140 394 392 393 84 = true := by decide +kernel
theorem bc_k141 : bc_kok 141 388 386 387 84 = true := by decide +kernel
theorem bc_k142 : bc_kok 142 398 396 397 84 = true := by decide +kernel
/-- Preconditions.checkIndex(i, n, v) of an index that is in -/
theorem c_checkIndex3 {i n : Int} (hi : bc_vr i) (hn : bc_vr n) (h0 : 0 ≤ i) (h1 : i < n) {v : Value} (hv : v.category = 1) {l : Launch} {Z : bc_ZT} {sz : Nat} : Met l (bc_y 149) (bc_ws 149) (bc_rm (d + 1)) (va_Pc [.int (Int32.ofInt i), .int (Int32.ofInt n), v] (fun U => U.heap.size = sz ∧ bc_WK Z (bc_A Z sz) U U.heap ∧ va_P Z.1 vwCl (bc_WS Z h) U.heap)) (bc_Q Z (fun r h' => r = some (.inl i) ∧ h' = h) (bc_A Z sz)) 0 0 (bc_A Z sz) := by
  refine bc_okV (loc := [some (.inl i), some (.inl n), none]) (by decide +kernel) (fun w hw => ?_) (Nat.le_of_ble_eq_true rfl) (fun j w hj => ?_) ?_
  · rcases List.mem_cons.mp hw with e | hw
    · rw [e]; rfl
    · rcases List.mem_cons.mp hw with e | hw
      · rw [e]; rfl
      · rcases List.mem_cons.mp hw with e | hw
        · rw [e]; exact hv
        · cases hw
  · match j, hj with
    | 0, hj => simp at hj; subst hj; rfl
    | 1, hj => simp at hj; subst hj; rfl
    | 2, hj => simp at hj
    | j + 3, hj => simp at hj
  · refine bc_s_iload_n (k := 0) (i := 0) (x := i) (by decide +kernel) rfl rfl ?_
    refine bc_s_if (k := .lt) (off := 8) (t := 9) (by decide +kernel) (by decide) hi (fun z => absurd z (by show ¬ i < 0; omega)) (fun _ => ?_)
    refine bc_s_iload_n (k := 0) (i := 0) (x := i) (by decide +kernel) rfl rfl ?_
    refine bc_s_iload_n (k := 1) (i := 1) (x := n) (by decide +kernel) rfl rfl ?_
    refine bc_s_icmp (k := .lt) (off := 10) (t := 16) (by decide +kernel) (by decide) hi hn (fun _ => ?_) (fun z => absurd h1 z)
    refine bc_s_iload_n (k := 0) (i := 0) (x := i) (by decide +kernel) rfl rfl ?_
    exact bc_s_ireturn (by decide +kernel) (Or.inl rfl) ⟨rfl, rfl⟩
/-- String.checkIndex -/
theorem c_checkIndex2 {i n : Int} (hi : bc_vr i) (hn : bc_vr n) (h0 : 0 ≤ i) (h1 : i < n) {post : Option bc_AV → bc_AH → Prop} (kk : post none h) : bc_OKr (d + 2) 143 [.inl i, .inl n] h post := by
  refine bc_okA (by decide +kernel) (fun v hv => ?_) (Nat.le_of_ble_eq_true rfl) ?_
  · rcases List.mem_cons.mp hv with e | hv
    · rw [e]; rfl
    · rcases List.mem_cons.mp hv with e | hv
      · rw [e]; rfl
      · cases hv
  · refine bc_s_iload_n (k := 0) (i := 0) (x := i) (by decide +kernel) rfl rfl ?_
    refine bc_s_iload_n (k := 1) (i := 1) (x := n) (by decide +kernel) rfl rfl ?_
    intro p l e s m args below meth c Z A H locs ls hX hA hW hP hS hL
    have hlink := hX.2.2.2.2.1 _ (List.mem_cons_of_mem _ (bc_inG_mem (i := 405) (w := .fieldLink "java/lang/String" 1053 "jdk/internal/util/Preconditions" "SIOOBE_FORMATTER" "Ljava/util/function/BiFunction;") (by decide +kernel)))
    have go : ∀ v : Value, v.category = 1 → va_Z "jdk/internal/util/Preconditions" "SIOOBE_FORMATTER" "Ljava/util/function/BiFunction;" v A s s.heap → W p l e (bc_rm (d + 2)) s m args below meth c H locs 0 0 (MQ below (bc_Q Z post A) args s 0 0 A) (F0 m 2 ls ([bc_cv Z.2.1 (.inl n), bc_cv Z.2.1 (.inl i)])) := fun v hv hZ => by
      refine va_gets hX.1 hX.2.1 hZ hS hX.2.2.2.2.2.1 hlink (fun _ q => q) (by decide +kernel) ?_
      refine bc_w_static (d := d + 1) (mi := 143) (mj := 149) (idx := 1059) (pos := 407) (vals := [.int (Int32.ofInt i), .int (Int32.ofInt n), v]) (st' := []) (by decide +kernel) bc_j149 (by decide +kernel) rfl (by decide) hX hA hW hP hS hL (fun sz => c_checkIndex3 hi hn h0 h1 hv) (fun r h' hp => ?_)
      obtain ⟨rfl, rfl⟩ := hp
      refine bc_s_popI (x := i) (by decide +kernel) ?_
      exact bc_s_return (by decide +kernel) rfl kk
    rcases hW.2.2.2.2.2.2.2 with hz | ⟨t, hz⟩
    · exact go _ rfl hz
    · exact go _ rfl hz
theorem bc_by8_b : ∀ i, i < 3 → ∀ j, j < bc_slen.getD i 0 → 0 ≤ bc_by8 i j ∧ bc_by8 i j ≤ 127 := by decide +kernel
theorem bc_andFF : ∀ n : Nat, n < 256 → bc_and (n : Int) 255 = (n : Int) := by decide +kernel
/-- StringLatin1.charAt -/
theorem c_charAtL {i j : Nat} (hi : i < 3) (hj : j < bc_slen.getD i 0) {post : Option bc_AV → bc_AH → Prop} (kk : post (some (.inl (bc_by8 i j))) h) : bc_OKr (d + 3) 144 [.inr (.inr (1100 + i)), .inl (j : Int)] h post := by
  have hb := bc_by8_b i hi j hj
  have hl4 : bc_slen.getD i 0 ≤ 4 := by
    have : ∀ i, i < 3 → bc_slen.getD i 0 ≤ 4 := by decide +kernel
    exact this i hi
  have hand : bc_and (bc_by8 i j) 255 = bc_by8 i j := by
    obtain ⟨a, ha⟩ := Int.eq_ofNat_of_zero_le hb.1
    rw [ha]; exact bc_andFF a (by omega)
  refine bc_okA (by decide +kernel) (fun v hv => ?_) (Nat.le_of_ble_eq_true rfl) ?_
  · rcases List.mem_cons.mp hv with e | hv
    · rw [e]; rfl
    · rcases List.mem_cons.mp hv with e | hv
      · rw [e]; rfl
      · cases hv
  · refine bc_s_iload_n (k := 1) (i := 1) (x := (j : Int)) (by decide +kernel) rfl rfl ?_
    refine bc_s_aload_n (k := 0) (i := 0) (x := 1100 + i) (by decide +kernel) rfl rfl ?_
    refine bc_s_blen hi (by decide +kernel) ?_
    intro p l e s m args below meth c Z A H locs ls hX hA hW hP hS hL
    refine bc_w_static (d := d + 2) (mi := 144) (mj := 143) (idx := 9) (pos := 402) (vals := [bc_cv Z.2.1 (.inl (j : Int)), bc_cv Z.2.1 (.inl (bc_slen.getD i 0 : Int))]) (st' := []) (by decide +kernel) bc_j143 (by decide +kernel) rfl (by decide) hX hA hW hP hS hL (fun sz => c_checkIndex2 (d := d) (h := h) (post := fun r h' => r = none ∧ h' = h) (i := (j : Int)) (n := (bc_slen.getD i 0 : Int)) ⟨by omega, by omega⟩ ⟨by omega, by omega⟩ (by omega) (by omega) ⟨rfl, rfl⟩ l Z sz) (fun r h' hp => ?_)
    obtain ⟨rfl, rfl⟩ := hp
    refine bc_s_aload_n (k := 0) (i := 0) (x := 1100 + i) (by decide +kernel) rfl rfl ?_
    refine bc_s_iload_n (k := 1) (i := 1) (x := (j : Int)) (by decide +kernel) rfl rfl ?_
    refine bc_s_bald hi hj (by decide +kernel) ?_
    refine bc_s_sipush (n := 255) (by decide +kernel) (by omega) (by omega) ?_
    refine bc_s_iand (by decide +kernel) ?_
    rw [hand]
    refine bc_s_i2c (by omega) (by decide +kernel) ?_
    refine bc_s_iretT (ty := .char) (by decide +kernel) rfl ?_ (Or.inl rfl) kk
    obtain ⟨a, ha⟩ := Int.eq_ofNat_of_zero_le hb.1
    rw [ha]
    have : ∀ n : Nat, n < 256 → narrow .char (.int (Int32.ofInt (n : Int))) = .int (Int32.ofInt (n : Int)) := by decide +kernel
    exact this a (by omega)
/-- isLatin1 -/
theorem c_isLatin1 {i : Nat} (hi : i < 3) {post : Option bc_AV → bc_AH → Prop} (kk : post (some (.inl 1)) h) : bc_OKr (d + 1) 142 [.inr (.inr (1000 + i))] h post := by
  refine bc_okA (by decide +kernel) (fun v hv => ?_) (Nat.le_of_ble_eq_true rfl) ?_
  · rcases List.mem_cons.mp hv with e | hv
    · rw [e]; rfl
    · cases hv
  · refine bc_s_compact (idx := 38) (pos := 389) (by decide +kernel) (by decide +kernel) ?_
    refine bc_s_if (k := .eq) (off := 14) (t := 17) (by decide +kernel) (by decide) ⟨by omega, by omega⟩ (fun z => absurd z (by show ¬ (1 : Int) = 0; omega)) (fun _ => ?_)
    refine bc_s_aload_n (k := 0) (i := 0) (x := 1000 + i) (by decide +kernel) rfl rfl ?_
    refine bc_s_coder (idx := 15) (pos := 1072) hi (by decide +kernel) (by decide +kernel) ?_
    refine bc_s_if (k := .ne) (off := 7) (t := 17) (by decide +kernel) (by decide) ⟨by omega, by omega⟩ (fun z => absurd rfl z) (fun _ => ?_)
    refine bc_s_iconst (n := 1) (by decide +kernel) ?_
    refine bc_s_goto (off := 4) (t := 18) (by decide +kernel) (by decide) ?_
    exact bc_s_ireturn (by decide +kernel) (Or.inr ⟨rfl, Or.inr rfl⟩) kk
/-- coder -/
theorem c_coder {i : Nat} (hi : i < 3) {post : Option bc_AV → bc_AH → Prop} (kk : post (some (.inl 0)) h) : bc_OKr (d + 1) 141 [.inr (.inr (1000 + i))] h post := by
  refine bc_okA (by decide +kernel) (fun v hv => ?_) (Nat.le_of_ble_eq_true rfl) ?_
  · rcases List.mem_cons.mp hv with e | hv
    · rw [e]; rfl
    · cases hv
  · refine bc_s_compact (idx := 38) (pos := 389) (by decide +kernel) (by decide +kernel) ?_
    refine bc_s_if (k := .eq) (off := 10) (t := 13) (by decide +kernel) (by decide) ⟨by omega, by omega⟩ (fun z => absurd z (by show ¬ (1 : Int) = 0; omega)) (fun _ => ?_)
    refine bc_s_aload_n (k := 0) (i := 0) (x := 1000 + i) (by decide +kernel) rfl rfl ?_
    refine bc_s_coder (idx := 15) (pos := 1072) hi (by decide +kernel) (by decide +kernel) ?_
    refine bc_s_goto (off := 4) (t := 14) (by decide +kernel) (by decide) ?_
    exact bc_s_iretT (ty := .byte) (by decide +kernel) rfl (by decide +kernel) (Or.inr (Or.inl rfl)) kk
/-- length -/
theorem c_slen {i : Nat} (hi : i < 3) {post : Option bc_AV → bc_AH → Prop} (kk : post (some (.inl (bc_slen.getD i 0 : Int))) h) : bc_OKr (d + 2) 139 [.inr (.inr (1000 + i))] h post := by
  have hs : ∀ i, i < 3 → bc_shr (bc_slen.getD i 0 : Int) 0 = (bc_slen.getD i 0 : Int) := by decide +kernel
  refine bc_okA (by decide +kernel) (fun v hv => ?_) (Nat.le_of_ble_eq_true rfl) ?_
  · rcases List.mem_cons.mp hv with e | hv
    · rw [e]; rfl
    · cases hv
  · refine bc_s_aload_n (k := 0) (i := 0) (x := 1000 + i) (by decide +kernel) rfl rfl ?_
    refine bc_s_value (idx := 9) (pos := 1071) hi (by decide +kernel) (by decide +kernel) ?_
    refine bc_s_blen hi (by decide +kernel) ?_
    refine bc_s_aload_n (k := 0) (i := 0) (x := 1000 + i) (by decide +kernel) rfl rfl ?_
    refine bc_s_vstr (mj := 141) (idx := 335) (pos := 385) (i := i) (as := []) (st' := [.inl (bc_slen.getD i 0 : Int)]) hi (by decide +kernel) bc_k141 (by decide +kernel) rfl rfl (Nat.le_of_ble_eq_true rfl) (c_coder (post := fun r h' => r = some (.inl 0) ∧ h' = h) hi ⟨rfl, rfl⟩) (fun r h' hp => ?_)
    obtain ⟨rfl, rfl⟩ := hp
    refine bc_s_ishr (x := (bc_slen.getD i 0 : Int)) (y := 0) (by decide +kernel) ?_
    rw [hs i hi]
    exact bc_s_ireturn (by decide +kernel) (Or.inl rfl) kk
/-- charAt -/
theorem c_schar {i j : Nat} (hi : i < 3) (hj : j < bc_slen.getD i 0) {post : Option bc_AV → bc_AH → Prop} (kk : post (some (.inl (bc_by8 i j))) h) : bc_OKr (d + 4) 140 [.inr (.inr (1000 + i)), .inl (j : Int)] h post := by
  have hb := bc_by8_b i hi j hj
  refine bc_okA (by decide +kernel) (fun v hv => ?_) (Nat.le_of_ble_eq_true rfl) ?_
  · rcases List.mem_cons.mp hv with e | hv
    · rw [e]; rfl
    · rcases List.mem_cons.mp hv with e | hv
      · rw [e]; rfl
      · cases hv
  · refine bc_s_aload_n (k := 0) (i := 0) (x := 1000 + i) (by decide +kernel) rfl rfl ?_
    refine bc_s_vstr (d := d + 3) (mj := 142) (idx := 492) (pos := 395) (i := i) (as := []) (st' := []) hi (by decide +kernel) bc_k142 (by decide +kernel) rfl rfl (Nat.le_of_ble_eq_true rfl) (c_isLatin1 (post := fun r h' => r = some (.inl 1) ∧ h' = h) hi ⟨rfl, rfl⟩) (fun r h' hp => ?_)
    obtain ⟨rfl, rfl⟩ := hp
    refine bc_s_if (k := .eq) (off := 12) (t := 16) (by decide +kernel) (by decide) ⟨by omega, by omega⟩ (fun z => absurd z (by show ¬ (1 : Int) = 0; omega)) (fun _ => ?_)
    refine bc_s_aload_n (k := 0) (i := 0) (x := 1000 + i) (by decide +kernel) rfl rfl ?_
    refine bc_s_value (idx := 9) (pos := 1071) hi (by decide +kernel) (by decide +kernel) ?_
    refine bc_s_iload_n (k := 1) (i := 1) (x := (j : Int)) (by decide +kernel) rfl rfl ?_
    intro p l e s m args below meth c Z A H locs ls hX hA hW hP hS hL
    refine bc_w_static (d := d + 3) (mi := 140) (mj := 144) (idx := 495) (pos := 399) (vals := [bc_cv Z.2.1 (.inr (.inr (1100 + i))), bc_cv Z.2.1 (.inl (j : Int))]) (st' := []) (by decide +kernel) bc_j144 (by decide +kernel) rfl (by decide) hX hA hW hP hS hL (fun sz => c_charAtL (d := d) (h := h') (post := fun r x => r = some (.inl (bc_by8 i j)) ∧ x = h') hi hj ⟨rfl, rfl⟩ l Z sz) (fun r h2 hp => ?_)
    obtain ⟨rfl, rfl⟩ := hp
    refine bc_s_iretT (ty := .char) (by decide +kernel) rfl ?_ (Or.inl rfl) kk
    obtain ⟨a, ha⟩ := Int.eq_ofNat_of_zero_le hb.1
    rw [ha]
    have : ∀ n : Nat, n < 256 → narrow .char (.int (Int32.ofInt (n : Int))) = .int (Int32.ofInt (n : Int)) := by decide +kernel
    exact this a (by omega)
end Str
