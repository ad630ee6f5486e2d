/-! calls: the callee by its contract bc_OKr -/
/-- a method's own words are there -/
def bc_mok (mi : Nat) : Bool :=
  (if (bc_MT mi).2.1 = 0 then bc_inG (bc_MP mi).2.1 (.static (bc_y mi)) else (bc_inG (bc_MP mi).2.1 (.instanceMethod (bc_y mi)) && bc_inG (bc_MP mi).2.2.1 (.selects (bc_y mi).cls (bc_y mi) (bc_y mi)))) &&
  bc_inG (bc_MP mi).2.2.2 (.initialized (bc_y mi).cls) && decide ((bc_y mi).cls ≠ "java/lang/invoke/MethodHandle") && decide ((bc_y mi).cls ≠ "java/lang/invoke/VarHandle") && plainName (bc_y mi).cls && decide ((parseMethodDescriptor (bc_y mi).desc).map (fun d => d.parameters.length) = some (bc_MT mi).2.2) && decide (bc_mL mi ≤ 40)
theorem bc_mok0 : ∀ mi ∈ bc_gl0, bc_mok mi = true := by decide +kernel
theorem bc_mok1 : ∀ mi ∈ bc_gl1, bc_mok mi = true := by decide +kernel
theorem bc_mok2 : ∀ mi ∈ bc_gl2, bc_mok mi = true := by decide +kernel
theorem bc_mok3 : ∀ mi ∈ bc_gl3, bc_mok mi = true := by decide +kernel
theorem bc_mok4 : ∀ mi ∈ bc_gl4, bc_mok mi = true := by decide +kernel
theorem bc_mok5 : ∀ mi ∈ bc_gl5, bc_mok mi = true := by decide +kernel
theorem bc_mok_all (mi : Nat) (h : bc_good mi = true) : bc_mok mi = true := by
  have hm : mi ∈ bc_gl := by simpa [bc_good] using h
  have ha : ∀ mi ∈ bc_gl, bc_mok mi = true := List.forall_mem_append.mpr ⟨bc_mok0, List.forall_mem_append.mpr ⟨bc_mok1, List.forall_mem_append.mpr ⟨bc_mok2, List.forall_mem_append.mpr ⟨bc_mok3, List.forall_mem_append.mpr ⟨bc_mok4, bc_mok5⟩⟩⟩⟩⟩
  exact ha mi hm
theorem bc_mcode (mi : Nat) (h : bc_good mi = true) : Cond.code (bc_y mi) (bc_by mi) (bc_mL mi) (bc_rt mi) ∈ bc_GW := by
  have hm : mi ∈ bc_gl := by simpa [bc_good] using h
  exact List.mem_filter.mpr ⟨List.mem_of_getElem? (bc_mc mi hm), rfl⟩
theorem bc_ws_good (mi mj : Nat) (hj : Cond.code (bc_y mj) (bc_by mj) (bc_mL mj) (bc_rt mj) ∈ bc_GW) : GoodIn (bc_ws mi) (bc_ws mj) := by
  intro w hw
  have hm : w ∈ bc_GW := by
    rcases List.mem_cons.mp hw with e | h
    · rw [e]; exact hj
    · exact h
  exact ⟨List.mem_cons_of_mem _ hm, bc_GW_good hm⟩
theorem bc_GW_in {mi : Nat} {ws : List Cond} (h : ∀ w ∈ ws, w ∈ bc_GW) : GoodIn (bc_ws mi) ws := fun w hw => ⟨List.mem_cons_of_mem _ (h w hw), bc_GW_good (h w hw)⟩
/-- the link of a call: own class (0) or a nest mate (else) -/
def bc_cw (own : String) (idx mj pos nest : Nat) : Bool := if nest = 0 then bc_inG pos (.methodLink own idx (bc_y mj)) else bc_inN pos (.methodLinkNest own idx (bc_y mj) "BlockCross")
section Calls
variable {p : Program} {l : Launch} {e : Env} {R : Room} {s : State} {m : MethodId} {args : Array Value} {below : List Frame} {meth : Method} {c : Code} {H : Heap} {locs : List Loc} {Q : State → Prop}
theorem bc_callQ {pc : Nat} {ls : Array Slot} {rest st0 : List Value} {a : Array Value} {A0 A1 : Nat → Prop} {H0 : Heap} {free : Addr → Prop} {Z : bc_ZT} {post : Option bc_AV → bc_AH → Prop} {cells slots mc ms : Nat} (hr : va_Run p l e R s m args below meth c H locs cells slots mc ms (F0 m pc ls st0) rest (bc_Q Z post A1 a) free) (hS : va_S A0 H0 H locs) (hA : ∀ q, q < H.size → A1 q → A0 q) (hf : ∀ q, free q → A0 q)
    (kk : ∀ (r : Option bc_AV) (h' : bc_AH) (H1 : Heap) (locs1 : List Loc), post r h' → va_P Z.1 vwCl (bc_WS Z h') H1 → va_S A0 H0 H1 locs1 → W p l e R s m args below meth c H1 locs1 (cells + mc) (slots + ms) Q (F0 m (pc + 3) ls ((r.map (bc_cv Z.2.1)).toList ++ rest))) : W p l e R s m args below meth c H locs cells slots Q (F0 m pc ls st0) := by
  intro T hT X
  obtain ⟨v, st₀, t, T', L, h0, X', hL, e1, e2, ⟨⟨r, h', hv, hp, hb⟩, hz, hk⟩, st⟩ := hr T hT X
  cases hv
  rw [h0] at hz hk
  obtain ⟨t2, a1, b1⟩ := kk r h' T'.heap (locs ++ L) hp (by rw [e1]; exact hb)
    ⟨Nat.le_trans hS.1 (by rw [e1]; exact hz), fun q h1 h2 => by rw [e1, hk q (Nat.lt_of_lt_of_le h1 hS.1) (fun z => h2 (hA q (Nat.lt_of_lt_of_le h1 hS.1) z))]; exact hS.2.1 q h1 h2, fun q hq => by
      rcases List.mem_append.mp hq with h | h
      · exact hS.2.2 q h
      · exact hf _ (hL q h)⟩ T' rfl X'
  exact ⟨t2, st t2 a1, b1⟩
theorem bc_blind (Z : bc_ZT) (sz : Nat) (as : List bc_AV) (h : bc_AH) : FrameBlind (bc_Pre Z sz as h) := by
  intro a U g mk q
  obtain ⟨q0, q1, q2, q3⟩ := q
  exact ⟨q0, q1, bc_WK_same (U := U.calling g mk a) (s := U) rfl q2, q3⟩
theorem bc_pre {Z : bc_ZT} {A : Nat → Prop} {as : List bc_AV} {h : bc_AH} (hA : ∀ q, s.heap.size ≤ q → A q) (hW : bc_WK Z A s s.heap) (hP : va_P Z.1 vwCl (bc_WS Z h) H) (hS : va_S A s.heap H locs) : ∀ U : State, U.heap = H → s.WarmedH U.vm → bc_Pre Z H.size as h (as.map (bc_cv Z.2.1)).toArray U := by
  intro U hU hWm
  refine ⟨rfl, by rw [hU], ?_, by rw [hU]; exact hP⟩
  rw [hU]
  refine bc_WK_warm hWm (bc_WK_kept hW (fun a h1 h2 => hS.2.1 a h1 h2) (fun q hq => ?_) (fun k hk => Or.inl ⟨k, hk, rfl⟩))
  rcases hq with ⟨k, hk, rfl⟩ | hq
  · exact hW.2.2.2.1 k hk
  · exact hA q (Nat.le_trans hS.1 hq)
end Calls
def bc_pop : Nat → List bc_AV → List bc_AV → Option (List bc_AV × List bc_AV)
  | 0, acc, st => some (acc, st)
  | _ + 1, _, [] => none
  | n + 1, acc, v :: st => bc_pop n (v :: acc) st
theorem bc_pop_spec : ∀ (n : Nat) (acc st as st' : List bc_AV), bc_pop n acc st = some (as, st') → ∃ bs, st = bs.reverse ++ st' ∧ as = bs ++ acc ∧ bs.length = n := by
  intro n
  induction n with
  | zero => intro acc st as st' h; cases h; exact ⟨[], rfl, rfl, rfl⟩
  | succ n ih =>
    intro acc st as st' h
    cases st with
    | nil => cases h
    | cons v st =>
      obtain ⟨bs, h1, h2, h3⟩ := ih (v :: acc) st as st' h
      exact ⟨bs ++ [v], by rw [h1]; simp, by rw [h2]; simp, by simp [h3]⟩
section Steps
variable {d mi : Nat} {post : Option bc_AV → bc_AH → Prop} {pc : Nat} {loc : List (Option bc_AV)} {st : List bc_AV} {h : bc_AH}
theorem bc_catsum (ad : Nat → Nat) (st : List bc_AV) : ((st.map (bc_cv ad)).map fun v => v.category).sum = (st.map bc_cat).sum := by
  rw [List.map_map]
  congr 1
  apply List.map_congr_left
  intro v _
  exact bc_cv_cat ad v
theorem bc_s_static {idx mj pos nest : Nat} {as st' : List bc_AV} (hd : decode (bc_by mi) pc = .ok (.invokestatic idx, 3)) (hg : bc_good mj = true) (hk : (bc_MT mj).2.1 = 0) (hw : bc_cw (bc_y mi).cls idx mj pos nest = true) (hp : bc_pop (bc_MT mj).2.2 [] st = some (as, st')) (hc : (st'.map bc_cat).sum ≤ 8)
    {P : Option bc_AV → bc_AH → Prop} (hM : bc_OKr d mj as h P) (hkk : ∀ r h', P r h' → bc_ATr d mi post (pc + 3) loc (r.toList ++ st') h') : bc_ATr d mi post pc loc st h := by
  intro p l e s m args below meth c Z A H locs ls hX hA hW hP hS hL
  have hX0 := hX
  obtain ⟨hx, hb, hml, hr, hts, hown, hlk⟩ := hX
  have hmk := bc_mok_all mj hg
  unfold bc_mok at hmk
  rw [if_pos hk] at hmk
  simp only [Bool.and_eq_true, decide_eq_true_eq] at hmk
  have k1 := bc_mcode mj hg
  obtain ⟨⟨⟨⟨⟨⟨k2, k4⟩, k5⟩, k6⟩, k7⟩, k8⟩, k9⟩ := hmk
  obtain ⟨bs, e1, e2, e3⟩ := bc_pop_spec _ _ _ _ _ hp
  rw [List.append_nil] at e2
  subst e2
  have hR : (bc_rm d).frames + 1 ≤ (bc_rm (d + 1)).frames ∧ 8 + (bc_mL mj + 11) + (bc_rm d).locals ≤ (bc_rm (d + 1)).locals := by
    unfold bc_rm
    exact ⟨by dsimp only; omega, by dsimp only; omega⟩
  have hst : st.map (bc_cv Z.2.1) = (as.map (bc_cv Z.2.1)).reverse ++ st'.map (bc_cv Z.2.1) := by rw [e1]; simp
  have hlen : (as.map (bc_cv Z.2.1)).length = (bc_MT mj).2.2 := by simp [e3]
  have hroom : 2 * (F0 m pc ls (st.map (bc_cv Z.2.1))).monitorRoom + ((st'.map (bc_cv Z.2.1)).map fun v => v.category).sum ≤ 8 := lv_room (by rw [bc_catsum]; exact hc)
  have hfree : ∀ q, bc_A Z H.size q → A q := by
    intro q hq
    rcases hq with ⟨k, hk, rfl⟩ | hq
    · exact hW.2.2.2.1 k hk
    · exact hA q (Nat.le_trans hS.1 hq)
  have hrun : va_Run p l e (bc_rm (d + 1)) s m args below meth c H locs 0 0 0 0 (F0 m pc ls (st.map (bc_cv Z.2.1))) (st'.map (bc_cv Z.2.1)) (bc_Q Z P (bc_A Z H.size) (as.map (bc_cv Z.2.1)).toArray) (bc_A Z H.size) := by
    unfold bc_cw at hw
    by_cases hne : nest = 0
    · rw [if_pos hne] at hw
      refine va_runS (Ts := bc_ws mi) (own := (bc_y mi).cls) (nL := bc_mL mi) ⟨hx, hb, hml, hown, hts⟩ (hM l Z H.size) (va_cwS (bc_MT mj).2.2 hts (bc_GW_in (fun w hw' => ?_)) rfl rfl rfl ⟨k5, k6, k8⟩ hR) ⟨bc_blind Z _ as h, bc_pre hA hW hP hS⟩ rfl hlen hL.1 hst hroom hd ⟨Nat.le_refl _, Nat.le_refl _⟩
      rcases List.mem_append.mp hw' with h1 | h1
      · rcases List.mem_cons.mp h1 with e | h1
        · rw [e]; exact bc_inG_mem hw
        · rcases List.mem_cons.mp h1 with e | h1
          · rw [e]; exact bc_inG_mem k2
          · rcases List.mem_cons.mp h1 with e | h1
            · rw [e]; exact bc_inG_mem k4
            · cases h1
      · rcases List.mem_cons.mp h1 with e | h1
        · rw [e]; exact k1
        · exact h1
    · rw [if_neg hne] at hw
      exact va_runSN (Ts := bc_ws mi) (own := (bc_y mi).cls) (nL := bc_mL mi) ⟨hx, hb, hml, hown, hts⟩ (hM l Z H.size) ⟨va_cnB (bc_MT mj).2.2 hts (bc_ws_good mi mj k1) rfl rfl rfl (hW.2.1 _ (bc_inN_mem hw)) (hts _ (List.mem_cons_of_mem _ (bc_inG_mem k4))) ⟨k5, k6, k8⟩ hR, hts _ (List.mem_cons_of_mem _ (bc_inG_mem k2)), trivial⟩ ⟨bc_blind Z _ as h, bc_pre hA hW hP hS⟩ rfl hlen hL.1 hst hroom hd ⟨Nat.le_refl _, Nat.le_refl _⟩
  refine bc_callQ hrun hS (fun q _ hq => hfree q hq) hfree (fun r h' H1 locs1 hp1 hP1 hS1 => ?_)
  have := hkk r h' hp1 p l e s m args below meth c Z A H1 locs1 ls hX0 hA hW hP1 hS1 hL
  rw [List.map_append] at this
  cases r <;> exact this
theorem bc_s_virtual {idx mj pos nest r : Nat} {as st' : List bc_AV} (hd : decode (bc_by mi) pc = .ok (.invokevirtual idx, 3)) (hg : bc_good mj = true) (hw : bc_cw (bc_y mi).cls idx mj pos nest = true) (hp : bc_pop ((bc_MT mj).2.2 + 1) [] st = some (.inr (.inr r) :: as, st')) (hc : (st'.map bc_cat).sum ≤ 8)
    (hr0 : (bc_lay r).1 = 0) (hr1 : (bc_MT mj).2.1 = (bc_lay r).2.1 + 1) (hcls : (vwCl[(bc_lay r).2.1]?).map (fun q => q.1) = some (bc_y mj).cls)
    {P : Option bc_AV → bc_AH → Prop} (hM : bc_OKr d mj (.inr (.inr r) :: as) h P) (hkk : ∀ r h', P r h' → bc_ATr d mi post (pc + 3) loc (r.toList ++ st') h') : bc_ATr d mi post pc loc st h := by
  intro p l e s m args below meth c Z A H locs ls hX hA hW hP hS hL
  have hX0 := hX
  obtain ⟨hx, hb, hml, hr, hts, hown, hlk⟩ := hX
  have hmk := bc_mok_all mj hg
  unfold bc_mok at hmk
  rw [if_neg (by rw [hr1]; omega)] at hmk
  simp only [Bool.and_eq_true, decide_eq_true_eq] at hmk
  have k1 := bc_mcode mj hg
  obtain ⟨⟨⟨⟨⟨⟨⟨k2, k3⟩, k4⟩, k5⟩, k6⟩, k7⟩, k8⟩, k9⟩ := hmk
  obtain ⟨bs, e1, e2, e3⟩ := bc_pop_spec _ _ _ _ _ hp
  rw [List.append_nil] at e2
  subst e2
  have hR : (bc_rm d).frames + 1 ≤ (bc_rm (d + 1)).frames ∧ 8 + (bc_mL mj + 11) + (bc_rm d).locals ≤ (bc_rm (d + 1)).locals := by
    unfold bc_rm
    exact ⟨by dsimp only; omega, by dsimp only; omega⟩
  have hst : st.map (bc_cv Z.2.1) = (as.map (bc_cv Z.2.1)).reverse ++ .ref (Z.2.1 r) :: st'.map (bc_cv Z.2.1) := by rw [e1]; simp; rfl
  have hlen : (as.map (bc_cv Z.2.1)).length = (bc_MT mj).2.2 := by simp at e3; simp [e3]
  have hroom : 2 * (F0 m pc ls (st.map (bc_cv Z.2.1))).monitorRoom + ((st'.map (bc_cv Z.2.1)).map fun v => v.category).sum ≤ 8 := lv_room (by rw [bc_catsum]; exact hc)
  have hfree : ∀ q, bc_A Z H.size q → A q := by
    intro q hq
    rcases hq with ⟨k, hk, rfl⟩ | hq
    · exact hW.2.2.2.1 k hk
    · exact hA q (Nat.le_trans hS.1 hq)
  have hrlt : r < bc_NC := by
    by_cases hk : r < bc_NC
    · exact hk
    · rw [bc_lay_out hk] at hr0; cases hr0
  obtain ⟨q, hq, -⟩ := bc_lay_cl r hrlt hr0
  have hqc : q.1 = (bc_y mj).cls := by rw [hq] at hcls; exact Option.some.inj hcls
  have hrecv : ∃ cell : Cell, H[Z.2.1 r]? = some cell ∧ cell.vm.isStatics = false ∧ s.vm.findClass (bc_y mj).cls = some cell.cls := by
    have hge := bc_WS_get Z h hrlt
    rw [bc_E_0 Z h (k := r) (ci := (bc_lay r).2.1) (fs := (bc_lay r).2.2) (by rw [← hr0])] at hge
    have := va_recv hW.1 hP hq hge
    rw [hqc] at this
    exact this
  have hpre : PreV s H (bc_y mj).cls (Z.2.1 r) (bc_Pre Z H.size (.inr (.inr r) :: as) h) (as.map (bc_cv Z.2.1)) := ⟨bc_blind Z _ _ h, hrecv, bc_pre (as := .inr (.inr r) :: as) hA hW hP hS⟩
  have hrun : va_Run p l e (bc_rm (d + 1)) s m args below meth c H locs 0 0 0 0 (F0 m pc ls (st.map (bc_cv Z.2.1))) (st'.map (bc_cv Z.2.1)) (bc_Q Z P (bc_A Z H.size) (Value.ref (Z.2.1 r) :: as.map (bc_cv Z.2.1)).toArray) (bc_A Z H.size) := by
    unfold bc_cw at hw
    by_cases hne : nest = 0
    · rw [if_pos hne] at hw
      refine va_runV (Ts := bc_ws mi) (own := (bc_y mi).cls) (nL := bc_mL mi) ⟨hx, hb, hml, hown, hts⟩ (hM l Z H.size) (cwV (bc_MT mj).2.2 hts (bc_GW_in (fun w hw' => ?_)) rfl rfl rfl ⟨rfl, k5, k6, k8⟩ hR) hpre rfl hlen hL.1 hst hroom hd ⟨Nat.le_refl _, Nat.le_refl _⟩
      rcases List.mem_append.mp hw' with h1 | h1
      · rcases List.mem_cons.mp h1 with e | h1
        · rw [e]; exact bc_inG_mem hw
        · rcases List.mem_cons.mp h1 with e | h1
          · rw [e]; exact bc_inG_mem k2
          · rcases List.mem_cons.mp h1 with e | h1
            · rw [e]; exact bc_inG_mem k3
            · rcases List.mem_cons.mp h1 with e | h1
              · rw [e]; exact bc_inG_mem k4
              · cases h1
      · rcases List.mem_cons.mp h1 with e | h1
        · rw [e]; exact k1
        · exact h1
    · rw [if_neg hne] at hw
      exact va_runVN (Ts := bc_ws mi) (own := (bc_y mi).cls) (nL := bc_mL mi) ⟨hx, hb, hml, hown, hts⟩ (hM l Z H.size) ⟨va_cnB (bc_MT mj).2.2 hts (bc_ws_good mi mj k1) rfl rfl rfl (hW.2.1 _ (bc_inN_mem hw)) (hts _ (List.mem_cons_of_mem _ (bc_inG_mem k4))) ⟨k5, k6, k8⟩ hR, hts _ (List.mem_cons_of_mem _ (bc_inG_mem k2)), hts _ (List.mem_cons_of_mem _ (bc_inG_mem k3))⟩ hpre rfl hlen hL.1 hst hroom hd ⟨Nat.le_refl _, Nat.le_refl _⟩
  refine bc_callQ hrun hS (fun q _ hq => hfree q hq) hfree (fun r h' H1 locs1 hp1 hP1 hS1 => ?_)
  have := hkk r h' hp1 p l e s m args below meth c Z A H1 locs1 ls hX0 hA hW hP1 hS1 hL
  rw [List.map_append] at this
  cases r <;> exact this
end Steps
