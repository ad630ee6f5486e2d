/-! a call out of the law: the callee by its contract -/
def bc_Rlaw : String := "BlockCrossLaw"
theorem bc_GL_in {ws : List Cond} (h : ∀ w ∈ ws, w ∈ bc_GW) : GoodIn lw_tbl ws := fun w hw => ⟨(List.mem_filter.mp (h w hw)).1, bc_GW_good (h w hw)⟩
section LawCall
variable {p : Program} {l : Launch} {e : Env} {s : State} {m : MethodId} {args : Array Value} {below : List Frame} {meth : Method} {c : Code} {H : Heap} {locs : List Loc} {Q : State → Prop}
theorem bc_l_virtual {d idx mj pos r pc cells slots : Nat} {ls : Array Slot} {as : List bc_AV} {rest : List Value} {h : bc_AH} {Z : bc_ZT} {A : Nat → Prop} {P : Option bc_AV → bc_AH → Prop} (hx : p.tables.exec = Jvm.exec) (hb : c.code = code) (hml : c.maxLocals = 7) (hown : s.vm.findClass bc_Rlaw = some m.cls) (hts : ∀ w ∈ lw_tbl, w.before args s = true) (hA : ∀ q, s.heap.size ≤ q → A q) (hW : bc_WK Z A s s.heap) (hP : va_P Z.1 vwCl (bc_WS Z h) H) (hS : va_S A s.heap H locs) (hls : ls.size = 7)
    (hd : decode code pc = .ok (.invokevirtual idx, 3)) (hg : bc_good mj = true) (hw : bc_inG pos (.methodLink bc_Rlaw idx (bc_y mj)) = true) (hlen : as.length = (bc_MT mj).2.2) (hc : (rest.map fun v => v.category).sum ≤ 8) (hr0 : (bc_lay r).1 = 0) (hr1 : (bc_MT mj).2.1 = (bc_lay r).2.1 + 1) (hcls : (vwCl[(bc_lay r).2.1]?).map (fun q => q.1) = some (bc_y mj).cls) (hd100 : d ≤ 100) (hroomc : cells ≤ 601024 ∧ slots ≤ 7293034)
    (hM : bc_OKr d mj (.inr (.inr r) :: as) h P) (hkk : ∀ (ret : Option bc_AV) (h' : bc_AH) (H1 : Heap) (locs1 : List Loc), P ret h' → va_P Z.1 vwCl (bc_WS Z h') H1 → va_S A s.heap H1 locs1 → W p l e room_1 s m args below meth c H1 locs1 cells slots Q (F0 m (pc + 3) ls ((ret.map (bc_cv Z.2.1)).toList ++ rest))) :
    W p l e room_1 s m args below meth c H locs cells slots Q (F0 m pc ls ((as.map (bc_cv Z.2.1)).reverse ++ .ref (Z.2.1 r) :: rest)) := by
  have hmk := bc_mok_all mj hg
  unfold bc_mok at hmk
  rw [if_neg (by rw [hr1]; omega)] at hmk
  simp only [Bool.and_eq_true, decide_eq_true_eq] at hmk
  have k1 := bc_mcode mj hg
  obtain ⟨⟨⟨⟨⟨⟨⟨k2, k3⟩, k4⟩, k5⟩, k6⟩, k7⟩, k8⟩, k9⟩ := hmk
  have hR : (bc_rm d).frames + 1 ≤ room_1.frames ∧ 8 + (bc_mL mj + 11) + (bc_rm d).locals ≤ room_1.locals := by
    unfold bc_rm room_1
    exact ⟨by dsimp only; omega, by dsimp only; omega⟩
  have hlen2 : (as.map (bc_cv Z.2.1)).length = (bc_MT mj).2.2 := by simp [hlen]
  have hroom : 2 * (F0 m pc ls ((as.map (bc_cv Z.2.1)).reverse ++ .ref (Z.2.1 r) :: rest)).monitorRoom + (rest.map fun v => v.category).sum ≤ 8 := lv_room hc
  have hfree : ∀ q, bc_A Z H.size q → A q := by
    intro q hq
    rcases hq with ⟨k, hk, rfl⟩ | hq
    · exact hW.2.2.2.1 k hk
    · exact hA q (Nat.le_trans hS.1 hq)
  have hrlt : r < bc_NC := by
    by_cases hk : r < bc_NC
    · exact hk
    · rw [bc_lay_out hk] at hr0; cases hr0
  obtain ⟨q, hq, -⟩ := bc_lay_cl r hrlt hr0
  have hqc : q.1 = (bc_y mj).cls := by rw [hq] at hcls; exact Option.some.inj hcls
  have hrecv : ∃ cell : Cell, H[Z.2.1 r]? = some cell ∧ cell.vm.isStatics = false ∧ s.vm.findClass (bc_y mj).cls = some cell.cls := by
    have hge := bc_WS_get Z h hrlt
    rw [bc_E_0 Z h (k := r) (ci := (bc_lay r).2.1) (fs := (bc_lay r).2.2) (by rw [← hr0])] at hge
    have := va_recv hW.1 hP hq hge
    rw [hqc] at this
    exact this
  have hpre : PreV s H (bc_y mj).cls (Z.2.1 r) (bc_Pre Z H.size (.inr (.inr r) :: as) h) (as.map (bc_cv Z.2.1)) := ⟨bc_blind Z _ _ h, hrecv, bc_pre (as := .inr (.inr r) :: as) hA hW hP hS⟩
  have hrun : va_Run p l e room_1 s m args below meth c H locs cells slots 0 0 (F0 m pc ls ((as.map (bc_cv Z.2.1)).reverse ++ .ref (Z.2.1 r) :: rest)) rest (bc_Q Z P (bc_A Z H.size) (Value.ref (Z.2.1 r) :: as.map (bc_cv Z.2.1)).toArray) (bc_A Z H.size) := by
    refine va_runV (Ts := lw_tbl) (own := bc_Rlaw) (nL := 7) ⟨hx, hb, hml, hown, hts⟩ (hM l Z H.size) (cwV (bc_MT mj).2.2 hts (bc_GL_in (fun w hw' => ?_)) rfl rfl rfl ⟨rfl, k5, k6, k8⟩ hR) hpre rfl hlen2 hls rfl hroom hd ⟨hroomc.1, hroomc.2⟩
    rcases List.mem_append.mp hw' with h1 | h1
    · rcases List.mem_cons.mp h1 with e | h1
      · rw [e]; exact bc_inG_mem hw
      · rcases List.mem_cons.mp h1 with e | h1
        · rw [e]; exact bc_inG_mem k2
        · rcases List.mem_cons.mp h1 with e | h1
          · rw [e]; exact bc_inG_mem k3
          · rcases List.mem_cons.mp h1 with e | h1
            · rw [e]; exact bc_inG_mem k4
            · cases h1
    · rcases List.mem_cons.mp h1 with e | h1
      · rw [e]; exact k1
      · exact h1
  exact bc_callQ hrun hS (fun q _ hq => hfree q hq) hfree (fun r h' H1 locs1 hp1 hP1 hS1 => hkk r h' H1 locs1 hp1 hP1 hS1)
end LawCall
