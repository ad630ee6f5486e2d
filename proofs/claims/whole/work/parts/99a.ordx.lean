/-! order of the class: it returns or it throws (printed by gen_ord.py) -/
def bx_T (A : Nat → Prop) (U : State) (H : Heap) : Prop := va_Nw (.declares ⟨"java/lang/RuntimeException", "<init>", "()V"⟩) U ∧ va_Nw (.declares ⟨"java/lang/Exception", "<init>", "()V"⟩) U ∧ va_Nw (.declares ⟨"java/lang/Throwable", "<init>", "()V"⟩) U ∧ va_Nw (.castable "java/util/NoSuchElementException" "java/util/NoSuchElementException") U ∧ vx_Zq Bundle.tN "UNASSIGNED_STACK" Bundle.steD A U H ∧ vx_Zq Bundle.tN "SUPPRESSED_SENTINEL" Bundle.listD A U H
theorem bx_T_warm {A : Nat → Prop} {s U : State} {H : Heap} (hW : s.WarmedH U.vm) (h : bx_T A s H) : bx_T A U H :=
  ⟨va_Nw.warmD hW h.1, va_Nw.warmD hW h.2.1, va_Nw.warmD hW h.2.2.1, va_Nw.warmC hW h.2.2.2.1, vx_Zq.moved hW.alike h.2.2.2.2.1, vx_Zq.moved hW.alike h.2.2.2.2.2⟩
theorem bx_T_same {A : Nat → Prop} {s U : State} {H : Heap} (hW : U.vm = s.vm) (h : bx_T A s H) : bx_T A U H := by
  have ha : s.vm.Alike U.vm := by rw [hW]; exact Vm.Alike.refl s.vm
  exact ⟨va_Nw.same rfl hW.symm h.1, va_Nw.same rfl hW.symm h.2.1, va_Nw.same rfl hW.symm h.2.2.1, va_Nw.same rfl hW.symm h.2.2.2.1, vx_Zq.moved ha h.2.2.2.2.1, vx_Zq.moved ha h.2.2.2.2.2⟩
theorem bx_T_kept {A B : Nat → Prop} {s : State} {H H1 : Heap} (h : bx_T A s H) (hq : ∀ a : Nat, a < H.size → ¬ A a → H1[a]? = H[a]?) (hAB : ∀ q, B q → A q) : bx_T B s H1 :=
  ⟨h.1, h.2.1, h.2.2.1, h.2.2.2.1, (h.2.2.2.2.1.kept hq).narrow hAB, (h.2.2.2.2.2.kept hq).narrow hAB⟩
def bx_B (Z : bc_ZT) (sz : Nat) (h : bc_AH) : State → Prop := fun U => U.heap.size = sz ∧ bc_WK Z (bc_A Z sz) U U.heap ∧ va_P Z.1 vwCl (bc_WS Z h) U.heap ∧ bx_T (bc_A Z sz) U U.heap
def bx_rm (f : Nat) : Room := { frames := f, cells := 1, slots := 6, locals := 100 * f }
theorem bx_blind (Z : bc_ZT) (sz : Nat) (vals : List Value) (h : bc_AH) : FrameBlind (va_Pc vals (bx_B Z sz h)) := by
  intro a U g mk q
  obtain ⟨q0, q1, q2, q3, q4⟩ := q
  exact ⟨q0, q1, bc_WK_same (U := U.calling g mk a) (s := U) rfl q2, q3, bx_T_same (U := U.calling g mk a) (s := U) rfl q4⟩
section OrdX
variable {p : Program} {l : Launch} {e : Env} {R : Room} {s : State} {m : MethodId} {args : Array Value} {below : List Frame} {meth : Method} {c : Code} {Q : State → Prop} {Z : bc_ZT} {A : Nat → Prop} {cells slots : Nat} {h : bc_AH} {H : Heap} {locs : List Loc} {ls : Array Slot}
theorem bx_free (hA : ∀ q, s.heap.size ≤ q → A q) (hW : bc_WK Z A s s.heap) (hS : va_S A s.heap H locs) : ∀ q, bc_A Z H.size q → A q := by
  intro q hq
  rcases hq with ⟨k, hk, rfl⟩ | hq
  · exact hW.2.2.2.1 k hk
  · exact hA q (Nat.le_trans hS.1 hq)
theorem bx_pre {vals : List Value} (hA : ∀ q, s.heap.size ≤ q → A q) (hW : bc_WK Z A s s.heap) (hT : bx_T A s s.heap) (hP : va_P Z.1 vwCl (bc_WS Z h) H) (hS : va_S A s.heap H locs) : ∀ U : State, U.heap = H → s.WarmedH U.vm → va_Pc vals (bx_B Z H.size h) vals.toArray U := by
  intro U hU hWm
  obtain ⟨-, b1, b2, b3⟩ := bc_pre (as := []) (h := h) hA hW hP hS U hU hWm
  refine ⟨rfl, b1, b2, b3, ?_⟩
  rw [hU]
  exact bx_T_warm hWm (bx_T_kept hT hS.2.1 (bx_free hA hW hS))
theorem ox_get {mi idx ci k pos nest r pc : Nat} {fs : List (Nat × Nat)} {v : bc_AV} {rest : List Value} (hX : bc_X mi p s m args meth c) (hW : bc_WK Z A s s.heap) (hP : va_P Z.1 vwCl (bc_WS Z h) H) (hd : decode (bc_by mi) pc = .ok (.getfield idx, 3)) (hw : bc_fw (bc_y mi).cls idx ci k pos nest = true) (hl : bc_lay r = (0, ci, fs)) (hk : k < fs.length)
    (hv : ∀ ad, bc_fv ad (h r k) (fs.getD k (9, 0)) = bc_cv ad v) (hN : W p l e R s m args below meth c H locs cells slots Q (F0 m (pc + 3) ls (bc_cv Z.2.1 v :: rest))) : W p l e R s m args below meth c H locs cells slots Q (F0 m pc ls (.ref (Z.2.1 r) :: rest)) := by
  obtain ⟨hx, hb, hml, hr, hts, hown, hlk⟩ := hX
  have hr := bc_lay_lt hl (by decide)
  obtain ⟨q, hq, hqn⟩ := bc_lay_cl r hr (by rw [hl])
  rw [hl] at hq hqn
  have hge := bc_WS_get Z h hr
  rw [bc_E_0 Z h hl] at hge
  have hfg : (bc_fs Z.2.1 (h r) fs)[k]? = some (bc_cv Z.2.1 v) := by rw [bc_fs_get _ _ hk, hv]
  unfold bc_fw at hw
  simp only [hq] at hw
  obtain ⟨C, T, N⟩ := q
  dsimp only at hw hqn
  have hkN : k < N := by rw [hqn]; exact hk
  by_cases hne : nest = 0
  · rw [if_pos hne] at hw
    exact va_get (C := C) (T := T) (N := N) hx hb hts (fun w h' => List.mem_cons_of_mem _ (bc_cl_in ci _ hq w h')) hown hW.1 hP r hge hq k hkN (hts _ (List.mem_cons_of_mem _ (bc_inG_mem hw))) (fun _ h9 => h9) hfg hd hN
  · rw [if_neg hne] at hw
    exact va_getN (C := C) (T := T) (N := N) hx hb hts (fun w h' => List.mem_cons_of_mem _ (bc_cl_in ci _ hq w h')) hown hW.1 hP r hge hq k hkN (va_Nw.use rfl (hW.2.1 _ (bc_inN_mem hw))) (fun _ h9 => h9) hfg hd hN
theorem ox_callN {mi d idx mj pos r pc : Nat} {as : List bc_AV} {rest : List Value} {P : Option bc_AV → bc_AH → Prop} (hX : bc_X mi p s m args meth c) (hA : ∀ q, s.heap.size ≤ q → A q) (hW : bc_WK Z A s s.heap) (hP : va_P Z.1 vwCl (bc_WS Z h) H) (hS : va_S A s.heap H locs) (hls : ls.size = bc_mL mi) (hd : decode (bc_by mi) pc = .ok (.invokevirtual idx, 3)) (hg : bc_good mj = true) (hw : bc_inN pos (.methodLinkNest (bc_y mi).cls idx (bc_y mj) "BlockCross") = true) (hlen : as.length = (bc_MT mj).2.2) (hc : (rest.map fun v => v.category).sum ≤ 8) (hr0 : (bc_lay r).1 = 0) (hr1 : (bc_MT mj).2.1 = (bc_lay r).2.1 + 1) (hcls : (vwCl[(bc_lay r).2.1]?).map (fun q => q.1) = some (bc_y mj).cls)
    (hR : (bc_rm d).frames + 1 ≤ R.frames ∧ 8 + (40 + 11) + (bc_rm d).locals ≤ R.locals) (hroomc : cells ≤ R.cells ∧ slots ≤ R.slots) (hM : bc_OKr d mj (.inr (.inr r) :: as) h P)
    (hkk : ∀ (ret : Option bc_AV) (h' : bc_AH) (H1 : Heap) (locs1 : List Loc), P ret h' → va_P Z.1 vwCl (bc_WS Z h') H1 → va_S A s.heap H1 locs1 → W p l e R s m args below meth c H1 locs1 cells slots Q (F0 m (pc + 3) ls ((ret.map (bc_cv Z.2.1)).toList ++ rest))) :
    W p l e R s m args below meth c H locs cells slots Q (F0 m pc ls ((as.map (bc_cv Z.2.1)).reverse ++ .ref (Z.2.1 r) :: rest)) := by
  obtain ⟨hx, hb, hml, hr, hts, hown, hlk⟩ := hX
  have hmk := bc_mok_all mj hg
  unfold bc_mok at hmk
  rw [if_neg (by rw [hr1]; omega)] at hmk
  simp only [Bool.and_eq_true, decide_eq_true_eq] at hmk
  have k1 := bc_mcode mj hg
  obtain ⟨⟨⟨⟨⟨⟨⟨k2, k3⟩, k4⟩, k5⟩, k6⟩, k7⟩, k8⟩, k9⟩ := hmk
  have hR2 : (bc_rm d).frames + 1 ≤ R.frames ∧ 8 + (bc_mL mj + 11) + (bc_rm d).locals ≤ R.locals := ⟨hR.1, by omega⟩
  have hlen2 : (as.map (bc_cv Z.2.1)).length = (bc_MT mj).2.2 := by simp [hlen]
  have hroom : 2 * (F0 m pc ls ((as.map (bc_cv Z.2.1)).reverse ++ .ref (Z.2.1 r) :: rest)).monitorRoom + (rest.map fun v => v.category).sum ≤ 8 := lv_room hc
  have hrlt : r < bc_NC := by
    by_cases hk : r < bc_NC
    · exact hk
    · rw [bc_lay_out hk] at hr0; cases hr0
  obtain ⟨q, hq, -⟩ := bc_lay_cl r hrlt hr0
  have hqc : q.1 = (bc_y mj).cls := by rw [hq] at hcls; exact Option.some.inj hcls
  have hrecv : ∃ cell : Cell, H[Z.2.1 r]? = some cell ∧ cell.vm.isStatics = false ∧ s.vm.findClass (bc_y mj).cls = some cell.cls := by
    have hge := bc_WS_get Z h hrlt
    rw [bc_E_0 Z h (k := r) (ci := (bc_lay r).2.1) (fs := (bc_lay r).2.2) (by rw [← hr0])] at hge
    have := va_recv hW.1 hP hq hge
    rw [hqc] at this
    exact this
  have hpre : PreV s H (bc_y mj).cls (Z.2.1 r) (bc_Pre Z H.size (.inr (.inr r) :: as) h) (as.map (bc_cv Z.2.1)) := ⟨bc_blind Z _ _ h, hrecv, bc_pre (as := .inr (.inr r) :: as) hA hW hP hS⟩
  have hrun : va_Run p l e R s m args below meth c H locs cells slots 0 0 (F0 m pc ls ((as.map (bc_cv Z.2.1)).reverse ++ .ref (Z.2.1 r) :: rest)) rest (bc_Q Z P (bc_A Z H.size) (Value.ref (Z.2.1 r) :: as.map (bc_cv Z.2.1)).toArray) (bc_A Z H.size) :=
    va_runVN (Ts := bc_ws mi) (own := (bc_y mi).cls) (nL := bc_mL mi) ⟨hx, hb, hml, hown, hts⟩ (hM l Z H.size) ⟨va_cnB (bc_MT mj).2.2 hts (bc_ws_good mi mj k1) rfl rfl rfl (hW.2.1 _ (bc_inN_mem hw)) (hts _ (List.mem_cons_of_mem _ (bc_inG_mem k4))) ⟨k5, k6, k8⟩ hR2, hts _ (List.mem_cons_of_mem _ (bc_inG_mem k2)), hts _ (List.mem_cons_of_mem _ (bc_inG_mem k3))⟩ hpre rfl hlen2 hls rfl hroom hd ⟨hroomc.1, hroomc.2⟩
  exact bc_callQ hrun hS (fun q _ hq => bx_free hA hW hS q hq) (bx_free hA hW hS) (fun r h' H1 locs1 hp1 hP1 hS1 => hkk r h' H1 locs1 hp1 hP1 hS1)
theorem ox_less {R' : Room} {T : State} (X : Stand p l e R s m args below meth c T locs cells slots) (hf : R'.frames ≤ R.frames) (hl : R'.locals ≤ R.locals) (hc : R'.cells ≤ R.cells) (hs : R'.slots ≤ R.slots) : Stand p l e R' s m args below meth c T locs cells slots := by
  refine ⟨X.admits, X.cas, X.clock, X.frames, ?_, X.hears, X.method, X.code, X.here, X.tail, X.warmed, X.limits, X.bytes, X.same⟩
  have hh := X.room
  simp only [State.hasRoom, Bool.and_eq_true, decide_eq_true_eq] at hh ⊢
  obtain ⟨⟨⟨⟨h1, h2, h3, h4, h5, h6⟩, h7⟩, h8⟩, h9⟩ := hh
  exact ⟨⟨⟨⟨by omega, by omega, by omega, by omega, by omega, h6⟩, by omega⟩, by omega⟩, h9⟩
theorem ox_mq {Qc : Array Value → State → Outcome → State → Prop} {XC : String → State → State → Prop} {mc ms : Nat} {free : Addr → Prop} {R' : Room} {g : JFrame} {Qd : Array Value → State → Outcome → State → Prop} (k : W p l e R' s m args below meth c H locs 0 0 (MQ below Qd args s 0 0 free) g) (hq : ∀ oc t, Qd args s oc t → Qc args s oc t) (hf : R'.frames ≤ R.frames) (hl : R'.locals ≤ R.locals) (hc : R'.cells ≤ R.cells) (hs : R'.slots ≤ R.slots) : W p l e R s m args below meth c H locs 0 0 (vx_MQ below Qc XC args s mc ms free) g := by
  refine vx_ret (fun T hT X => ?_)
  obtain ⟨t, a1, oc, b1, b2, b3, L, b4, b5⟩ := k T hT (ox_less X hf hl hc hs)
  exact ⟨t, a1, oc, b1, b2, hq oc t b3, L, ⟨b4.1, b4.2.1, b4.2.2.mono (Nat.zero_le _) (Nat.zero_le _)⟩, b5⟩
theorem ox_head {o w : Int} {D : Nat → Int} (hX : bc_X 59 p s m args meth c) (hA : ∀ q, s.heap.size ≤ q → A q) (hW : bc_WK Z A s s.heap) (hP : va_P Z.1 vwCl (bc_WS Z h) H) (hS : va_S A s.heap H locs) (hL : bc_L Z ls 3 [some (.inr (.inr 0)), some (.inl o), some (.inl w)]) (hC : pd_C 4 D h) (hV : pd_V D) (ho : bc_vr o) (hw : bc_vr w) (hR : 3 ≤ R.frames ∧ 300 ≤ R.locals) (hroomc : cells ≤ R.cells ∧ slots ≤ R.slots)
    (k1 : pd_ordOK D o w = true → ∀ (H1 : Heap) (locs1 : List Loc), va_P Z.1 vwCl (bc_WS Z h) H1 → va_S A s.heap H1 locs1 → W p l e R s m args below meth c H1 locs1 cells slots Q (F0 m 29 ls []))
    (k0 : pd_ordOK D o w = false → ∀ (H1 : Heap) (locs1 : List Loc), va_P Z.1 vwCl (bc_WS Z h) H1 → va_S A s.heap H1 locs1 → W p l e R s m args below meth c H1 locs1 cells slots Q (F0 m 21 ls [])) : W p l e R s m args below meth c H locs cells slots Q (F0 m 0 ls []) := by
  have v0 := hV.1
  have d0 : decode (bc_by 59) 0 = .ok (.aload_n 0, 1) := by decide +kernel
  have d1 : decode (bc_by 59) 1 = .ok (.getfield 28, 3) := by decide +kernel
  have d4 : decode (bc_by 59) 4 = .ok (.iload_n 1, 1) := by decide +kernel
  have d5 : decode (bc_by 59) 5 = .ok (.invokevirtual 107, 3) := by decide +kernel
  have d8 : decode (bc_by 59) 8 = .ok (.ifCond .eq 13, 3) := by decide +kernel
  have d11 : decode (bc_by 59) 11 = .ok (.iload_n 2, 1) := by decide +kernel
  have d12 : decode (bc_by 59) 12 = .ok (.ifCond .lt 9, 3) := by decide +kernel
  have d15 : decode (bc_by 59) 15 = .ok (.iload_n 2, 1) := by decide +kernel
  have d16 : decode (bc_by 59) 16 = .ok (.bipush 8, 2) := by decide +kernel
  have d18 : decode (bc_by 59) 18 = .ok (.if_icmp .le 11, 3) := by decide +kernel
  refine lv_aload_n hX.1 hX.2.1 d0 rfl (hL.2.2 0 _ rfl) ?_
  refine ox_get (mi := 59) (idx := 28) (ci := 6) (k := 2) (pos := 303) (nest := 0) (r := 0) (v := .inr (.inr 4)) (fs := (bc_lay 0).2.2) hX hW hP d1 (by decide +kernel) rfl (by decide) (fun ad => rfl) ?_
  refine lv_iload_n hX.1 hX.2.1 d4 rfl (hL.2.2 1 _ rfl) ?_
  refine ox_callN (mi := 59) (d := 1) (idx := 107) (mj := 15) (pos := 567) (r := 4) (as := [.inl o]) (rest := []) (P := fun r x => x = h ∧ ((r = some (.inl 1) ∧ 0 ≤ o ∧ o < D 0) ∨ (r = some (.inl 0) ∧ ¬ (0 ≤ o ∧ o < D 0)))) hX hA hW hP hS hL.1 d5 (by decide +kernel) (by decide +kernel) rfl (by decide) rfl rfl rfl ⟨by show 1 + 1 + 1 ≤ R.frames; omega, by show 8 + (40 + 11) + 64 * (1 + 1) ≤ R.locals; omega⟩ hroomc (by
    rw [← bc_OK_eq]
    exact c1_has (d := 0) hC hV ho (fun a b => ⟨rfl, Or.inl ⟨rfl, a, b⟩⟩) (fun q => ⟨rfl, Or.inr ⟨rfl, q⟩⟩)) (fun ret h' H1 locs1 hp hP1 hS1 => ?_)
  obtain ⟨rfl, hp⟩ := hp
  rcases hp with ⟨rfl, a, b⟩ | ⟨rfl, q⟩
  · refine lv_if_eq (off := 13) (tgt := 21) hX.1 hX.2.1 d8 (by decide) (fun z => absurd z (by show ¬ Int32.ofInt 1 = 0; decide)) (fun _ => ?_)
    refine lv_iload_n hX.1 hX.2.1 d11 rfl (hL.2.2 2 _ rfl) ?_
    refine lv_if_lt (off := 9) (tgt := 21) hX.1 hX.2.1 d12 (by decide) (fun z => k0 ?_ H1 locs1 hP1 hS1) (fun z => ?_)
    · have := (bc_lt hw (y := 0) ⟨by omega, by omega⟩).mp z
      unfold pd_ordOK
      exact decide_eq_false (fun y => by omega)
    · have z1 : ¬ w < 0 := fun y => z ((bc_lt hw (y := 0) ⟨by omega, by omega⟩).mpr y)
      refine lv_iload_n hX.1 hX.2.1 d15 rfl (hL.2.2 2 _ rfl) ?_
      refine lv_bipush (v := Int32.ofInt 8) hX.1 hX.2.1 d16 (by decide +kernel) ?_
      refine lv_icmp_le (off := 11) (tgt := 29) hX.1 hX.2.1 d18 (by decide) (fun y => k1 ?_ H1 locs1 hP1 hS1) (fun y => k0 ?_ H1 locs1 hP1 hS1)
      · have := (bc_le hw (y := 8) ⟨by omega, by omega⟩).mp y
        unfold pd_ordOK
        exact decide_eq_true ⟨⟨a, b⟩, by omega, this⟩
      · have : ¬ w ≤ 8 := fun x => y ((bc_le hw (y := 8) ⟨by omega, by omega⟩).mpr x)
        unfold pd_ordOK
        exact decide_eq_false (fun x => by omega)
  · refine lv_if_eq (off := 13) (tgt := 21) hX.1 hX.2.1 d8 (by decide) (fun _ => k0 ?_ H1 locs1 hP1 hS1) (fun z => absurd rfl z)
    unfold pd_ordOK
    exact decide_eq_false (fun x => q x.1)
/-- from 29 on, the number of the field being one of 0 to 8 -/
theorem ox_tail {o w : Int} {D : Nat → Int} (hC : pd_C 4 D h) (hV : pd_V D) (ho : bc_vr o) (hw : bc_vr w) (hk : pd_ordOK D o w = true) : bc_ATr 3 59 (fun r x => r = some (.inl (pd_ordV D o w)) ∧ x = h) 29 [some (.inr (.inr 0)), some (.inl o), some (.inl w)] [] h := by
  have hk2 := of_decide_eq_true hk
  obtain ⟨⟨o0, o1⟩, w0, w8⟩ := hk2
  have v0 := hV.1
  have v1 := hV.2.1
  have e9 : h 4 9 = D 1 := hC.1.2.1
  obtain ⟨f0, f1, f2, f3, f4, f5, f7, f8⟩ := hC.2 o.toNat (by omega)
  refine bc_s_iload_n (k := 2) (i := 2) (x := w) (by decide +kernel) rfl rfl ?_
  unfold pd_ordV
  have dsw : decode (bc_by 59) 30 = .ok (.tableswitch 140 0 7 #[46, 56, 66, 76, 86, 96, 106, 130], 46) := by decide +kernel
  refine bc_s_switch (ts := [76, 86, 96, 106, 116, 126, 136, 160]) (td := 170) dsw hw (by decide) (by decide +kernel) (by decide) ⟨fun e => ?_, fun e => ?_, fun e => ?_, fun e => ?_, fun e => ?_, fun e => ?_, fun e => ?_, fun e => ?_, trivial⟩ (fun e => ?_)
  · refine bc_s_aload_n (k := 0) (i := 0) (x := 0) (by decide +kernel) rfl rfl ?_
    refine bc_s_get (idx := 28) (ci := 6) (k := 2) (pos := 303) (nest := 0) (r := 0) (v := .inr (.inr 4)) (fs := (bc_lay 0).2.2) (by decide +kernel) (by decide +kernel) rfl (by decide) (fun ad => rfl) ?_
    refine bc_s_get (idx := 114) (ci := 1) (k := 0) (pos := 156) (nest := 1) (r := 4) (v := .inr (.inr 5)) (fs := (bc_lay 4).2.2) (by decide +kernel) (by decide +kernel) rfl (by decide) (fun ad => rfl) ?_
    refine bc_s_iload_n (k := 1) (i := 1) (x := o) (by decide +kernel) rfl rfl ?_
    refine bc_s_iald (r := 5) (n := 24) (fs := (bc_lay 5).2.2) (by decide +kernel) rfl o0 (by omega) ?_
    refine bc_s_ireturn (by decide +kernel) (Or.inl rfl) ⟨?_, rfl⟩
    rw [if_neg (by omega)]
    have e2 : w.toNat = 0 := by omega
    rw [e2]; exact congrArg (fun z => some (Sum.inl z : bc_AV)) f0
  · refine bc_s_aload_n (k := 0) (i := 0) (x := 0) (by decide +kernel) rfl rfl ?_
    refine bc_s_get (idx := 28) (ci := 6) (k := 2) (pos := 303) (nest := 0) (r := 0) (v := .inr (.inr 4)) (fs := (bc_lay 0).2.2) (by decide +kernel) (by decide +kernel) rfl (by decide) (fun ad => rfl) ?_
    refine bc_s_get (idx := 118) (ci := 1) (k := 1) (pos := 159) (nest := 1) (r := 4) (v := .inr (.inr 6)) (fs := (bc_lay 4).2.2) (by decide +kernel) (by decide +kernel) rfl (by decide) (fun ad => rfl) ?_
    refine bc_s_iload_n (k := 1) (i := 1) (x := o) (by decide +kernel) rfl rfl ?_
    refine bc_s_iald (r := 6) (n := 24) (fs := (bc_lay 6).2.2) (by decide +kernel) rfl o0 (by omega) ?_
    refine bc_s_ireturn (by decide +kernel) (Or.inl rfl) ⟨?_, rfl⟩
    rw [if_neg (by omega)]
    have e2 : w.toNat = 1 := by omega
    rw [e2]; exact congrArg (fun z => some (Sum.inl z : bc_AV)) f1
  · refine bc_s_aload_n (k := 0) (i := 0) (x := 0) (by decide +kernel) rfl rfl ?_
    refine bc_s_get (idx := 28) (ci := 6) (k := 2) (pos := 303) (nest := 0) (r := 0) (v := .inr (.inr 4)) (fs := (bc_lay 0).2.2) (by decide +kernel) (by decide +kernel) rfl (by decide) (fun ad => rfl) ?_
    refine bc_s_get (idx := 121) (ci := 1) (k := 2) (pos := 161) (nest := 1) (r := 4) (v := .inr (.inr 7)) (fs := (bc_lay 4).2.2) (by decide +kernel) (by decide +kernel) rfl (by decide) (fun ad => rfl) ?_
    refine bc_s_iload_n (k := 1) (i := 1) (x := o) (by decide +kernel) rfl rfl ?_
    refine bc_s_iald (r := 7) (n := 24) (fs := (bc_lay 7).2.2) (by decide +kernel) rfl o0 (by omega) ?_
    refine bc_s_ireturn (by decide +kernel) (Or.inl rfl) ⟨?_, rfl⟩
    rw [if_neg (by omega)]
    have e2 : w.toNat = 2 := by omega
    rw [e2]; exact congrArg (fun z => some (Sum.inl z : bc_AV)) f2
  · refine bc_s_aload_n (k := 0) (i := 0) (x := 0) (by decide +kernel) rfl rfl ?_
    refine bc_s_get (idx := 28) (ci := 6) (k := 2) (pos := 303) (nest := 0) (r := 0) (v := .inr (.inr 4)) (fs := (bc_lay 0).2.2) (by decide +kernel) (by decide +kernel) rfl (by decide) (fun ad => rfl) ?_
    refine bc_s_get (idx := 124) (ci := 1) (k := 3) (pos := 164) (nest := 1) (r := 4) (v := .inr (.inr 8)) (fs := (bc_lay 4).2.2) (by decide +kernel) (by decide +kernel) rfl (by decide) (fun ad => rfl) ?_
    refine bc_s_iload_n (k := 1) (i := 1) (x := o) (by decide +kernel) rfl rfl ?_
    refine bc_s_iald (r := 8) (n := 24) (fs := (bc_lay 8).2.2) (by decide +kernel) rfl o0 (by omega) ?_
    refine bc_s_ireturn (by decide +kernel) (Or.inl rfl) ⟨?_, rfl⟩
    rw [if_neg (by omega)]
    have e2 : w.toNat = 3 := by omega
    rw [e2]; exact congrArg (fun z => some (Sum.inl z : bc_AV)) f3
  · refine bc_s_aload_n (k := 0) (i := 0) (x := 0) (by decide +kernel) rfl rfl ?_
    refine bc_s_get (idx := 28) (ci := 6) (k := 2) (pos := 303) (nest := 0) (r := 0) (v := .inr (.inr 4)) (fs := (bc_lay 0).2.2) (by decide +kernel) (by decide +kernel) rfl (by decide) (fun ad => rfl) ?_
    refine bc_s_get (idx := 127) (ci := 1) (k := 4) (pos := 167) (nest := 1) (r := 4) (v := .inr (.inr 9)) (fs := (bc_lay 4).2.2) (by decide +kernel) (by decide +kernel) rfl (by decide) (fun ad => rfl) ?_
    refine bc_s_iload_n (k := 1) (i := 1) (x := o) (by decide +kernel) rfl rfl ?_
    refine bc_s_iald (r := 9) (n := 24) (fs := (bc_lay 9).2.2) (by decide +kernel) rfl o0 (by omega) ?_
    refine bc_s_ireturn (by decide +kernel) (Or.inl rfl) ⟨?_, rfl⟩
    rw [if_neg (by omega)]
    have e2 : w.toNat = 4 := by omega
    rw [e2]; exact congrArg (fun z => some (Sum.inl z : bc_AV)) f4
  · refine bc_s_aload_n (k := 0) (i := 0) (x := 0) (by decide +kernel) rfl rfl ?_
    refine bc_s_get (idx := 28) (ci := 6) (k := 2) (pos := 303) (nest := 0) (r := 0) (v := .inr (.inr 4)) (fs := (bc_lay 0).2.2) (by decide +kernel) (by decide +kernel) rfl (by decide) (fun ad => rfl) ?_
    refine bc_s_get (idx := 130) (ci := 1) (k := 5) (pos := 169) (nest := 1) (r := 4) (v := .inr (.inr 10)) (fs := (bc_lay 4).2.2) (by decide +kernel) (by decide +kernel) rfl (by decide) (fun ad => rfl) ?_
    refine bc_s_iload_n (k := 1) (i := 1) (x := o) (by decide +kernel) rfl rfl ?_
    refine bc_s_iald (r := 10) (n := 24) (fs := (bc_lay 10).2.2) (by decide +kernel) rfl o0 (by omega) ?_
    refine bc_s_ireturn (by decide +kernel) (Or.inl rfl) ⟨?_, rfl⟩
    rw [if_neg (by omega)]
    have e2 : w.toNat = 5 := by omega
    rw [e2]; exact congrArg (fun z => some (Sum.inl z : bc_AV)) f5
  · refine bc_s_aload_n (k := 0) (i := 0) (x := 0) (by decide +kernel) rfl rfl ?_
    refine bc_s_get (idx := 28) (ci := 6) (k := 2) (pos := 303) (nest := 0) (r := 0) (v := .inr (.inr 4)) (fs := (bc_lay 0).2.2) (by decide +kernel) (by decide +kernel) rfl (by decide) (fun ad => rfl) ?_
    refine bc_s_iload_n (k := 1) (i := 1) (x := o) (by decide +kernel) rfl rfl ?_
    refine bc_s_aload_n (k := 0) (i := 0) (x := 0) (by decide +kernel) rfl rfl ?_
    refine bc_s_get (idx := 28) (ci := 6) (k := 2) (pos := 303) (nest := 0) (r := 0) (v := .inr (.inr 4)) (fs := (bc_lay 0).2.2) (by decide +kernel) (by decide +kernel) rfl (by decide) (fun ad => rfl) ?_
    refine bc_s_get (idx := 86) (ci := 1) (k := 9) (pos := 180) (nest := 1) (r := 4) (v := .inl (D 1)) (fs := (bc_lay 4).2.2) (by decide +kernel) (by decide +kernel) rfl (by decide) (fun ad => by rw [e9]; rfl) ?_
    refine bc_s_virtual (d := 3) (idx := 133) (mj := 17) (pos := 585) (nest := 1) (r := 4) (as := [.inl o, .inl (D 1)]) (st' := []) (P := fun r x => x = h ∧ r = some (.inl (if pd_wb D (D 1) o.toNat then 1 else 0))) (by decide +kernel) (by decide +kernel) (by decide +kernel) rfl (by decide) rfl rfl rfl (by
      rw [← bc_OK_eq]
      refine c1_isWilling (d := 0) hC hV ho (m := D 1) ⟨by omega, by omega⟩ (fun a b z => ⟨rfl, by rw [if_pos z]⟩) (fun z => ⟨rfl, ?_⟩)
      rw [if_neg (fun y => z ⟨o0, y⟩)]) (fun r x hp => ?_)
    obtain ⟨rfl, rfl⟩ := hp
    have fin : bc_ATr 3 59 (fun r y => r = some (.inl (if w = 6 then (if pd_wb D (D 1) o.toNat then 1 else 0) else D (7 + 9 * o.toNat + w.toNat))) ∧ y = x) 159 [some (.inr (.inr 0)), some (.inl o), some (.inl w)] [.inl (if pd_wb D (D 1) o.toNat then 1 else 0)] x := bc_s_ireturn (by decide +kernel) (Or.inl rfl) ⟨by rw [if_pos (show w = 6 by omega)], rfl⟩
    by_cases q : pd_wb D (D 1) o.toNat = true
    · rw [if_pos q] at fin ⊢
      refine bc_s_if (k := .eq) (off := 7) (t := 158) (by decide +kernel) (by decide) ⟨by omega, by omega⟩ (fun z => absurd z (by show ¬ (1 : Int) = 0; omega)) (fun _ => ?_)
      refine bc_s_iconst (n := 1) (by decide +kernel) ?_
      exact bc_s_goto (off := 4) (t := 159) (by decide +kernel) (by decide) fin
    · rw [if_neg q] at fin ⊢
      refine bc_s_if (k := .eq) (off := 7) (t := 158) (by decide +kernel) (by decide) ⟨by omega, by omega⟩ (fun _ => ?_) (fun z => absurd rfl z)
      exact bc_s_iconst (n := 0) (by decide +kernel) fin
  · refine bc_s_aload_n (k := 0) (i := 0) (x := 0) (by decide +kernel) rfl rfl ?_
    refine bc_s_get (idx := 28) (ci := 6) (k := 2) (pos := 303) (nest := 0) (r := 0) (v := .inr (.inr 4)) (fs := (bc_lay 0).2.2) (by decide +kernel) (by decide +kernel) rfl (by decide) (fun ad => rfl) ?_
    refine bc_s_get (idx := 137) (ci := 1) (k := 6) (pos := 171) (nest := 1) (r := 4) (v := .inr (.inr 11)) (fs := (bc_lay 4).2.2) (by decide +kernel) (by decide +kernel) rfl (by decide) (fun ad => rfl) ?_
    refine bc_s_iload_n (k := 1) (i := 1) (x := o) (by decide +kernel) rfl rfl ?_
    refine bc_s_iald (r := 11) (n := 24) (fs := (bc_lay 11).2.2) (by decide +kernel) rfl o0 (by omega) ?_
    refine bc_s_ireturn (by decide +kernel) (Or.inl rfl) ⟨?_, rfl⟩
    rw [if_neg (by omega)]
    have e2 : w.toNat = 7 := by omega
    rw [e2]; exact congrArg (fun z => some (Sum.inl z : bc_AV)) f7
  · refine bc_s_aload_n (k := 0) (i := 0) (x := 0) (by decide +kernel) rfl rfl ?_
    refine bc_s_get (idx := 28) (ci := 6) (k := 2) (pos := 303) (nest := 0) (r := 0) (v := .inr (.inr 4)) (fs := (bc_lay 0).2.2) (by decide +kernel) (by decide +kernel) rfl (by decide) (fun ad => rfl) ?_
    refine bc_s_get (idx := 140) (ci := 1) (k := 7) (pos := 173) (nest := 1) (r := 4) (v := .inr (.inr 12)) (fs := (bc_lay 4).2.2) (by decide +kernel) (by decide +kernel) rfl (by decide) (fun ad => rfl) ?_
    refine bc_s_iload_n (k := 1) (i := 1) (x := o) (by decide +kernel) rfl rfl ?_
    refine bc_s_iald (r := 12) (n := 24) (fs := (bc_lay 12).2.2) (by decide +kernel) rfl o0 (by omega) ?_
    refine bc_s_ireturn (by decide +kernel) (Or.inl rfl) ⟨?_, rfl⟩
    rw [if_neg (by omega)]
    have e2 : w.toNat = 8 := by omega
    rw [e2]; exact congrArg (fun z => some (Sum.inl z : bc_AV)) f8
end OrdX
