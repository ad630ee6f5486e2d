/-! constructors by contract: this lies at a, the heap ends behind it; afterwards n cells lie from a on -/
def kc_rm (d mc ms : Nat) : Room := { frames := d + 1, cells := mc, slots := ms, locals := 64 * (d + 1) }
def kc_Pre (Z : bc_ZT) (a : Nat) (E0 : va_E) : State → Prop := fun U => U.heap.size = a + 1 ∧ kc_K Z U ∧ va_at Z.1 vwCl (a, E0) U.heap
def kc_Q (Z : bc_ZT) (a n : Nat) (E : Nat → va_E) : Array Value → State → Outcome → State → Prop := va_Qv (fun _ : Unit => True) (fun _ t => t.heap.size = a + n ∧ ∀ k, k < n → va_at Z.1 vwCl (a + k, E k) t.heap) (fun q => a ≤ q)
def kc_Met (l : Launch) (mi d mc ms : Nat) (Z : bc_ZT) (a : Nat) (vals : List Value) (E0 : va_E) (n : Nat) (E : Nat → va_E) : Prop := Met l (bc_y mi) (bc_ws mi) (kc_rm d mc ms) (va_Pc (.ref a :: vals) (kc_Pre Z a E0)) (kc_Q Z a n E) mc ms (fun q => a ≤ q)
theorem kc_blind (Z : bc_ZT) (a : Nat) (vals : List Value) (E0 : va_E) : FrameBlind (va_Pc vals (kc_Pre Z a E0)) := by
  intro x U g mk q
  obtain ⟨q0, q1, q2, q3⟩ := q
  exact ⟨q0, q1, kc_K_same (U := U.calling g mk x) (s := U) rfl q2, q3⟩
theorem kc_of {l : Launch} {mi d mc ms : Nat} {Z : bc_ZT} {a : Nat} {vals : List Value} {E0 : va_E} {n : Nat} {E : Nat → va_E} (hpl : plainName (bc_y mi).cls = true) (hrt : bc_rt mi = none) (hname : (bc_y mi).name = "<init>") (hn : (lg_sl (.ref a :: vals)).length ≤ bc_mL mi)
    (body : ∀ (p : Program) (e : Env) (s : State) (m : MethodId) (below : List Frame) (meth : Method) (c : Code) (ls : Array Slot), kc_X p s m (.ref a :: vals : List Value).toArray c (bc_by mi) (bc_y mi).cls → meth.sig.returnType = none → meth.locks = false → meth.name = "<init>" → c.maxLocals = bc_mL mi → lv_has ls (bc_mL mi) (lv_args 0 (.ref a :: vals)) → s.heap.size = a + 1 → kc_K Z s → va_at Z.1 vwCl (a, E0) s.heap →
      W p l e (kc_rm d mc ms) s m (.ref a :: vals : List Value).toArray below meth c s.heap [] 0 0 (MQ below (kc_Q Z a n E) (.ref a :: vals : List Value).toArray s mc ms (fun q => a ≤ q)) (F0 m 0 ls [])) : kc_Met l mi d mc ms Z a vals E0 n E := by
  refine Met.ofW (cc := bc_by mi) (maxL := bc_mL mi) (ret := bc_rt mi) hpl rfl ?_
  intro p e s m args' below meth c s₁ B hml hv
  obtain ⟨rfl, hsz, hK, hat⟩ := hv
  have hl := lv_entry (.ref a :: vals) (n := bc_mL mi) hn
  rw [lg_entry_eq]
  have hts := atoms_spec (ws := bc_ws mi) B.pre
  exact body p e s m below meth c _ ⟨B.exec, B.bytes, findClass_of_methodNamed B.named, fun w hw => hts w (List.mem_cons_of_mem _ hw)⟩ (by rw [B.returns, hrt]) B.notSynchronized ((name_of_methodNamed B.named B.method).1.trans hname) hml hl hsz hK hat
section Made2
variable {p : Program} {l : Launch} {e : Env} {R : Room} {s : State} {m : MethodId} {args : Array Value} {below : List Frame} {meth : Method} {c : Code} {Q : State → Prop} {Z : bc_ZT} {A : Nat → Prop} {cells slots : Nat} {H : Heap} {locs : List Loc} {ls : Array Slot} {cc : ByteArray} {own : String} {pc : Nat} {rest : List Value}
theorem kx_ret {a n : Nat} {E : Nat → va_E} (X : kc_X p s m args c cc own) (hret : meth.sig.returnType = none) (hlk : meth.locks = false) (hS : va_S (fun q => a ≤ q) s.heap H locs) (hsz : H.size = a + n) (h0 : va_at Z.1 vwCl (a, E 0) H) (hE : ∀ k, 1 ≤ k → k < n → va_at Z.1 vwCl (a + k, E k) H) (hd : decode cc pc = .ok (.return_, 1)) : W p l e R s m args below meth c H locs cells slots (MQ below (kc_Q Z a n E) args s cells slots (fun q => a ≤ q)) (F0 m pc ls []) := by
  refine W.vret X.1 X.2.1 hret (fun t ht _ => ⟨⟨(), rfl, trivial, ?_⟩, hS.F ht⟩) hS.2.2 hd hlk
  show t.heap.size = a + n ∧ ∀ k, k < n → va_at Z.1 vwCl (a + k, E k) t.heap
  rw [ht]
  refine ⟨hsz, fun k hk => ?_⟩
  by_cases q : k = 0
  · subst q; exact h0
  · exact hE k (by omega) hk
theorem kx_get {C : String} {T : u_T} {N ci k idx pos a : Nat} {fs : List Value} {v : Value} (X : kc_X p s m args c cc own) (hK : kc_K Z s) (hc : vwCl[ci]? = some (C, T, N)) (hat : va_at Z.1 vwCl (a, .inr (ci, fs)) H) (hk : k < N) (hw : bc_inG pos (.fieldLink own idx C (T k).2.1 (T k).2.2.1) = true) (hsame : (T k).1 = C) (hv : fs[k]? = some v) (hdg : decode cc pc = .ok (.getfield idx, 3)) (kk : W p l e R s m args below meth c H locs cells slots Q (F0 m (pc + 3) ls (v :: rest))) : W p l e R s m args below meth c H locs cells slots Q (F0 m pc ls (.ref a :: rest)) := by
  obtain ⟨hx, hb, hown, hgw⟩ := X
  have hP : va_P Z.1 vwCl [(a, .inr (ci, fs))] H := by
    intro k q hq
    have hz : k < 1 := (List.getElem?_eq_some_iff.mp hq).1
    rw [show k = 0 by omega] at hq
    cases hq
    exact hat
  exact va_get (ref := C) hx hb hgw (fun w h' => bc_cl_in ci _ hc w h') hown hK.1 hP 0 rfl hc k hk (hgw _ (bc_inG_mem hw)) (fun x h9 => by rw [← hsame]; exact h9) hv hdg kk
theorem kc_GG {mi : Nat} (h : Cond.code (bc_y mi) (bc_by mi) (bc_mL mi) (bc_rt mi) ∈ bc_GW) : GoodIn bc_GW (bc_ws mi) := fun w hw => by
  rcases List.mem_cons.mp hw with e | h1
  · rw [e]; exact ⟨h, bc_GW_good h⟩
  · exact ⟨h1, bc_GW_good h1⟩
/-- a call of a private constructor -/
theorem kx_call {mi d mc ms a n nL np idx pos p1 p3 : Nat} {vals : List Value} {E0 : va_E} {E : Nat → va_E} (X : kc_X p s m args c cc own) (hK : kc_K Z s) (hml : c.maxLocals = nL) (hls : ls.size = nL) (hS : va_S A s.heap H locs) (hA : ∀ q, a ≤ q → A q) (hsz : H.size = a + 1) (hat : va_at Z.1 vwCl (a, E0) H) (hM : kc_Met l mi d mc ms Z a vals E0 n E) (hcode : Cond.code (bc_y mi) (bc_by mi) (bc_mL mi) (bc_rt mi) ∈ bc_GW) (hrt : bc_rt mi = none) (w1 : bc_inG p1 (.instanceMethod (bc_y mi)) = true) (w3 : bc_inG p3 (.initialized (bc_y mi).cls) = true) (hw : bc_inN pos (.methodLinkNest own idx (bc_y mi) "BlockCross") = true) (hname : (bc_y mi).name = "<init>") (hnp : vals.length = np) (hd : (bc_y mi).cls ≠ "java/lang/invoke/MethodHandle" ∧ (bc_y mi).cls ≠ "java/lang/invoke/VarHandle" ∧ (parseMethodDescriptor (bc_y mi).desc).map (fun d => d.parameters.length) = some np) (hR : (kc_rm d mc ms).frames + 1 ≤ R.frames ∧ 8 + (bc_mL mi + 11) + (kc_rm d mc ms).locals ≤ R.locals) (hroomc : cells + mc ≤ R.cells ∧ slots + ms ≤ R.slots) (hc8 : (rest.map fun v => v.category).sum ≤ 8) (hdg : decode cc pc = .ok (.invokespecial idx, 3))
    (kk : ∀ (H1 : Heap) (locs1 : List Loc), H1.size = a + n → (∀ k, k < n → va_at Z.1 vwCl (a + k, E k) H1) → (∀ q : Nat, q < a → H1[q]? = H[q]?) → va_S A s.heap H1 locs1 → W p l e R s m args below meth c H1 locs1 (cells + mc) (slots + ms) Q (F0 m (pc + 3) ls rest)) : W p l e R s m args below meth c H locs cells slots Q (F0 m pc ls (vals.reverse ++ .ref a :: rest)) := by
  obtain ⟨hx, hb, hown, hgw⟩ := X
  have hpre : PreS s H (va_Pc (.ref a :: vals) (kc_Pre Z a E0)) (.ref a :: vals) := ⟨kc_blind Z a _ E0, fun U hU hW => ⟨rfl, by rw [hU]; exact hsz, kc_K_warm hW hK, by rw [hU]; exact hat⟩⟩
  have hw2 : bc_ws mi = Cond.code (bc_y mi) (bc_by mi) (bc_mL mi) none :: bc_GW := by unfold bc_ws; rw [hrt]
  have hrun := va_runIN (p := p) (e := e) (R := R) (s := s) (m := m) (args := args) (below := below) (meth := meth) (c := c) (H := H) (locs := locs) (cells := cells) (slots := slots) (g := F0 m pc ls (vals.reverse ++ .ref a :: rest)) (rest := rest) (b := a) (As := vals) (Ts := bc_GW) (own := own) (nL := nL) ⟨hx, hb, hml, hown, hgw⟩ hM ⟨va_cnB np hgw (kc_GG hcode) hw2 rfl rfl (hK.2.1 _ (bc_inN_mem hw)) (hgw _ (bc_inG_mem w3)) hd hR, hname, hgw _ (bc_inG_mem w1)⟩ hpre rfl hnp hls rfl (lv_room hc8) hdg hroomc
  refine va_callv (post := fun _ : Unit => True) (B := fun _ t => t.heap.size = a + n ∧ ∀ k, k < n → va_at Z.1 vwCl (a + k, E k) t.heap) (A1 := fun q => a ≤ q) hrun hS (fun q _ hq => hA q hq) (fun q hq => hA q hq) (fun u t H1 locs1 ht hvm _ hB hz hk hS1 => ?_)
  rw [ht] at hB
  exact kk H1 locs1 hB.1 hB.2 (fun q hq => hk q (by omega) (by omega)) hS1
/-- .. of a public one -/
theorem kx_callP {mi d mc ms a n nL np idx pos p1 p3 : Nat} {vals : List Value} {E0 : va_E} {E : Nat → va_E} (X : kc_X p s m args c cc own) (hK : kc_K Z s) (hml : c.maxLocals = nL) (hls : ls.size = nL) (hS : va_S A s.heap H locs) (hA : ∀ q, a ≤ q → A q) (hsz : H.size = a + 1) (hat : va_at Z.1 vwCl (a, E0) H) (hM : kc_Met l mi d mc ms Z a vals E0 n E) (hcode : Cond.code (bc_y mi) (bc_by mi) (bc_mL mi) (bc_rt mi) ∈ bc_GW) (hrt : bc_rt mi = none) (w1 : bc_inG p1 (.instanceMethod (bc_y mi)) = true) (w3 : bc_inG p3 (.initialized (bc_y mi).cls) = true) (hw : bc_inG pos (.methodLink own idx (bc_y mi)) = true) (hname : (bc_y mi).name = "<init>") (hnp : vals.length = np) (hd : (bc_y mi).cls ≠ "java/lang/invoke/MethodHandle" ∧ (bc_y mi).cls ≠ "java/lang/invoke/VarHandle" ∧ (parseMethodDescriptor (bc_y mi).desc).map (fun d => d.parameters.length) = some np) (hR : (kc_rm d mc ms).frames + 1 ≤ R.frames ∧ 8 + (bc_mL mi + 11) + (kc_rm d mc ms).locals ≤ R.locals) (hroomc : cells + mc ≤ R.cells ∧ slots + ms ≤ R.slots) (hc8 : (rest.map fun v => v.category).sum ≤ 8) (hdg : decode cc pc = .ok (.invokespecial idx, 3))
    (kk : ∀ (H1 : Heap) (locs1 : List Loc), H1.size = a + n → (∀ k, k < n → va_at Z.1 vwCl (a + k, E k) H1) → (∀ q : Nat, q < a → H1[q]? = H[q]?) → va_S A s.heap H1 locs1 → W p l e R s m args below meth c H1 locs1 (cells + mc) (slots + ms) Q (F0 m (pc + 3) ls rest)) : W p l e R s m args below meth c H locs cells slots Q (F0 m pc ls (vals.reverse ++ .ref a :: rest)) := by
  obtain ⟨hx, hb, hown, hgw⟩ := X
  have hpre : PreS s H (va_Pc (.ref a :: vals) (kc_Pre Z a E0)) (.ref a :: vals) := ⟨kc_blind Z a _ E0, fun U hU hW => ⟨rfl, by rw [hU]; exact hsz, kc_K_warm hW hK, by rw [hU]; exact hat⟩⟩
  have hw2 : bc_ws mi = Cond.code (bc_y mi) (bc_by mi) (bc_mL mi) none :: bc_GW := by unfold bc_ws; rw [hrt]
  have hrun := va_runI (p := p) (e := e) (R := R) (s := s) (m := m) (args := args) (below := below) (meth := meth) (c := c) (H := H) (locs := locs) (cells := cells) (slots := slots) (g := F0 m pc ls (vals.reverse ++ .ref a :: rest)) (rest := rest) (b := a) (As := vals) (Ts := bc_GW) (own := own) (nL := nL) ⟨hx, hb, hml, hown, hgw⟩ hM (cwI np hgw (kc_GG hcode) hw2 rfl rfl (hgw _ (bc_inG_mem w3)) (hgw _ (bc_inG_mem hw)) (hgw _ (bc_inG_mem w1)) hname hd hR) hpre rfl hnp hls rfl (lv_room hc8) hdg hroomc
  refine va_callv (post := fun _ : Unit => True) (B := fun _ t => t.heap.size = a + n ∧ ∀ k, k < n → va_at Z.1 vwCl (a + k, E k) t.heap) (A1 := fun q => a ≤ q) hrun hS (fun q _ hq => hA q hq) (fun q hq => hA q hq) (fun u t H1 locs1 ht hvm _ hB hz hk hS1 => ?_)
  rw [ht] at hB
  exact kk H1 locs1 hB.1 hB.2 (fun q hq => hk q (by omega) (by omega)) hS1
end Made2
section Fam
variable {Z : bc_ZT} {a n : Nat} {E : Nat → va_E} {H H1 : Heap}
theorem kf_ext (hF : ∀ k, 1 ≤ k → k < n → va_at Z.1 vwCl (a + k, E k) H) (o1 : ∀ q : Nat, q < a + n → H1[q]? = H[q]?) (hn : va_at Z.1 vwCl (a + n, E n) H1) : ∀ k, 1 ≤ k → k < n + 1 → va_at Z.1 vwCl (a + k, E k) H1 := fun k h1 h2 => by
  by_cases q : k = n
  · subst q; exact hn
  · exact (hF k h1 (by omega)).kept (o1 _ (by show a + k < a + n; omega))
theorem kf_put (hF : ∀ k, 1 ≤ k → k < n → va_at Z.1 vwCl (a + k, E k) H) (oq : ∀ q : Nat, q ≠ a → H1[q]? = H[q]?) : ∀ k, 1 ≤ k → k < n → va_at Z.1 vwCl (a + k, E k) H1 := fun k h1 h2 => (hF k h1 h2).kept (oq _ (by show a + k ≠ a; omega))
theorem kf_old (hF : ∀ k, 1 ≤ k → k < n → va_at Z.1 vwCl (a + k, E k) H) (o1 : ∀ q : Nat, q < a + n → H1[q]? = H[q]?) : ∀ k, 1 ≤ k → k < n → va_at Z.1 vwCl (a + k, E k) H1 := fun k h1 h2 => (hF k h1 h2).kept (o1 _ (by show a + k < a + n; omega))
theorem kf_call {j : Nat} {E' : Nat → va_E} (hF : ∀ k, 1 ≤ k → k < n → va_at Z.1 vwCl (a + k, E k) H) (o1 : ∀ q : Nat, q < a + n → H1[q]? = H[q]?) (hn : ∀ k, k < j → va_at Z.1 vwCl (a + n + k, E' k) H1) (he : ∀ k, k < j → E (n + k) = E' k) : ∀ k, 1 ≤ k → k < n + j → va_at Z.1 vwCl (a + k, E k) H1 := fun k h1 h2 => by
  by_cases q : k < n
  · exact (hF k h1 q).kept (o1 _ (by show a + k < a + n; omega))
  · have e1 := hn (k - n) (by omega)
    rw [← he (k - n) (by omega)] at e1
    have e2 : n + (k - n) = k := by omega
    have e3 : a + n + (k - n) = a + k := by omega
    rw [e2, e3] at e1
    exact e1
end Fam
