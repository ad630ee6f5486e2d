/-! making the objects: rows with known addresses -/
def kc_K (Z : bc_ZT) (U : State) : Prop := va_K Z.1 vwCl (bc_tys Z) U ∧ (∀ w ∈ bc_NW, va_Nw w U) ∧ va_AO "BlockCross$Desk" U
theorem kc_K_warm {Z : bc_ZT} {s U : State} (hW : s.WarmedH U.vm) (h : kc_K Z s) : kc_K Z U := ⟨va_K.moved hW.alike h.1, fun w hw => bc_Nw_warm (List.mem_filter.mp hw).2 hW (h.2.1 w hw), h.2.2.moved hW.alike⟩
theorem kc_K_same {Z : bc_ZT} {s U : State} (hv : U.vm = s.vm) (h : kc_K Z s) : kc_K Z U := by
  have ha : s.vm.Alike U.vm := by rw [hv]; exact Vm.Alike.refl s.vm
  exact ⟨va_K.moved ha h.1, fun w hw => (by
    have hn := (List.mem_filter.mp hw).2
    have hz := h.2.1 w hw
    cases w <;> first | (exact va_Nw.same rfl hv.symm hz) | (simp [bc_isN] at hn)), h.2.2.moved ha⟩
def kc_X (p : Program) (s : State) (m : MethodId) (args : Array Value) (c : Code) (cc : ByteArray) (own : String) : Prop := p.tables.exec = Jvm.exec ∧ c.code = cc ∧ s.vm.findClass own = some m.cls ∧ ∀ w ∈ bc_GW, w.before args s = true
/-- an array of n ints, all 0 -/
def kc_A (Z : bc_ZT) (n : Nat) : va_E := .inl (Z.2.2.1, n, .inl (fun _ => Int32.ofInt 0))
section Made
variable {p : Program} {l : Launch} {e : Env} {R : Room} {s : State} {m : MethodId} {args : Array Value} {below : List Frame} {meth : Method} {c : Code} {Q : State → Prop} {Z : bc_ZT} {A : Nat → Prop} {cells slots : Nat} {H : Heap} {locs : List Loc} {ls : Array Slot} {cc : ByteArray} {own : String} {pc : Nat} {rest : List Value}
theorem kx_new {C : String} {T : u_T} {N ci idx i1 i2 i3 a : Nat} {fs : List Value} (X : kc_X p s m args c cc own) (hK : kc_K Z s) (hS : va_S A s.heap H locs) (hc : vwCl[ci]? = some (C, T, N)) (hh : H.size = a) (w1 : bc_inG i1 (.classLink own idx C) = true) (w2 : bc_inG i2 (.instantiable C N) = true) (w3 : bc_inG i3 (.initialized C) = true) (hdf : ∀ j, j < N → (parseFieldDescriptor (T j).2.2.1).map defaultValue = some (vp_V fs j)) (hcells : cells + 1 ≤ R.cells) (hslots : slots + N ≤ R.slots) (hdg : decode cc pc = .ok (.new idx, 3))
    (kk : ∀ H1 : Heap, H1.size = a + 1 → va_at Z.1 vwCl (a, .inr (ci, fs)) H1 → (∀ q : Nat, q < a → H1[q]? = H[q]?) → va_S A s.heap H1 locs → W p l e R s m args below meth c H1 locs (cells + 1) (slots + N) Q (F0 m (pc + 3) ls (.ref a :: rest))) : W p l e R s m args below meth c H locs cells slots Q (F0 m pc ls rest) := by
  obtain ⟨hx, hb, hown, hgw⟩ := X
  have hKn := hK.1.1 ci _ hc
  obtain ⟨⟨ty0, hty⟩, hnm⟩ := bc_cl_ty ci _ hc
  refine W.newcK hx hb hown (hgw _ (bc_inG_mem w1)) (hgw _ (bc_inG_mem w2)) (hgw _ (bc_inG_mem w3)) rfl hdg hcells hslots hKn.2.1 hh fun H1 kC hkC e1 z1 o1 => ?_
  refine kk H1 z1 ⟨_, hc, (u_born ty0 hgw (fun w hw => bc_cl_in ci _ hc w hw) hKn hkC e1 hty).to (fun j hj => ?_)⟩ o1 ⟨Nat.le_trans hS.1 (by omega), fun x h1 h2 => (o1 x (by have := hS.1; omega)).trans (hS.2.1 x h1 h2), hS.2.2⟩
  have h1 := hdf j hj
  have h2 := hty j hj
  dsimp only at h2
  rw [h2] at h1
  exact Option.some.inj h1
theorem kx_newa {N a : Nat} (X : kc_X p s m args c cc own) (hK : kc_K Z s) (hS : va_S A s.heap H locs) (hh : H.size = a) (hN : N < 100000) (hcells : cells + 1 ≤ R.cells) (hslots : slots + N ≤ R.slots) (hdg : decode cc pc = .ok (.newarray .int, 2))
    (kk : ∀ H1 : Heap, H1.size = a + 1 → va_at Z.1 vwCl (a, kc_A Z N) H1 → (∀ q : Nat, q < a → H1[q]? = H[q]?) → va_S A s.heap H1 locs → W p l e R s m args below meth c H1 locs (cells + 1) (slots + N) Q (F0 m (pc + 2) ls (.ref a :: rest))) : W p l e R s m args below meth c H locs cells slots Q (F0 m pc ls (.int (Int32.ofInt (N : Int)) :: rest)) := by
  obtain ⟨hx, hb, hown, hgw⟩ := X
  have w1 : bc_inG 117 (.arrayClass .int) = true := by decide +kernel
  have hn : ¬ Int32.ofInt (N : Int) < 0 := by
    rw [show (0 : Int32) = Int32.ofInt 0 from rfl, bc_lt ⟨by omega, by omega⟩ ⟨by omega, by omega⟩]; omega
  have hN2 : (Int32.ofInt (N : Int)).toNatClampNeg = N := by rw [bc_cl2 (by omega) (by omega)]; omega
  refine va_newaK (atype := .int) hx hb (hgw _ (bc_inG_mem w1)) rfl hdg rfl hn hN2 (by show N * 4 ≤ 536870912; omega) hcells hslots hh fun H1 cA e1 z1 o1 hAr hNm => ?_
  have hcI : cA = Z.2.2.1 := Option.some.inj (hNm.symm.trans (hK.1.2 0 _ rfl).2)
  subst hcI
  exact kk H1 z1 e1 o1 ⟨Nat.le_trans hS.1 (by omega), fun x h1 h2 => (o1 x (by have := hS.1; omega)).trans (hS.2.1 x h1 h2), hS.2.2⟩
theorem kx_newl {N a : Nat} (X : kc_X p s m args c cc own) (hK : kc_K Z s) (hS : va_S A s.heap H locs) (hh : H.size = a) (hN : N < 100000) (hcells : cells + 1 ≤ R.cells) (hslots : slots + N ≤ R.slots) (hdg : decode cc pc = .ok (.newarray .long, 2))
    (kk : ∀ H1 : Heap, H1.size = a + 1 → va_at Z.1 vwCl (a, .inl (Z.2.2.2.1, N, .inr (.inl (fun _ => Int64.ofInt 0)))) H1 → (∀ q : Nat, q < a → H1[q]? = H[q]?) → va_S A s.heap H1 locs → W p l e R s m args below meth c H1 locs (cells + 1) (slots + N) Q (F0 m (pc + 2) ls (.ref a :: rest))) : W p l e R s m args below meth c H locs cells slots Q (F0 m pc ls (.int (Int32.ofInt (N : Int)) :: rest)) := by
  obtain ⟨hx, hb, hown, hgw⟩ := X
  have w1 : bc_inG 1058 (.arrayClass .long) = true := by decide +kernel
  have hn : ¬ Int32.ofInt (N : Int) < 0 := by
    rw [show (0 : Int32) = Int32.ofInt 0 from rfl, bc_lt ⟨by omega, by omega⟩ ⟨by omega, by omega⟩]; omega
  have hN2 : (Int32.ofInt (N : Int)).toNatClampNeg = N := by rw [bc_cl2 (by omega) (by omega)]; omega
  refine va_newaK (atype := .long) hx hb (hgw _ (bc_inG_mem w1)) rfl hdg rfl hn hN2 (by show N * 8 ≤ 536870912; omega) hcells hslots hh fun H1 cA e1 z1 o1 hAr hNm => ?_
  have hcI : cA = Z.2.2.2.1 := Option.some.inj (hNm.symm.trans (hK.1.2 1 _ rfl).2)
  subst hcI
  exact kk H1 z1 e1 o1 ⟨Nat.le_trans hS.1 (by omega), fun x h1 h2 => (o1 x (by have := hS.1; omega)).trans (hS.2.1 x h1 h2), hS.2.2⟩
/-- a field of this is put in its constructor -/
theorem kx_put {C : String} {T : u_T} {N ci k idx pos a : Nat} {fs : List Value} {v : Value} {ty : FieldType} (X : kc_X p s m args c cc own) (hK : kc_K Z s) (hS : va_S A s.heap H locs) (hAa : A a) (hc : vwCl[ci]? = some (C, T, N)) (hat : va_at Z.1 vwCl (a, .inr (ci, fs)) H) (hin2 : meth.name = "<init>") (hk : k < N) (hl : k < fs.length) (hw : bc_inG pos (.fieldLink own idx C (T k).2.1 (T k).2.2.1) = true) (hdecl : (T k).1 = own) (hd : parseFieldDescriptor (T k).2.2.1 = some ty) (hn : narrow ty v = v) (hfit : fits ty v = true) (hsame : (T k).1 = C) (hdg : decode cc pc = .ok (.putfield idx, 3))
    (kk : ∀ (H1 : Heap) (locs1 : List Loc), H1.size = H.size → va_at Z.1 vwCl (a, .inr (ci, fs.set k v)) H1 → (∀ q : Nat, q ≠ a → H1[q]? = H[q]?) → va_S A s.heap H1 locs1 → W p l e R s m args below meth c H1 locs1 cells slots Q (F0 m (pc + 3) ls rest)) : W p l e R s m args below meth c H locs cells slots Q (F0 m pc ls (v :: .ref a :: rest)) := by
  obtain ⟨hx, hb, hown, hgw⟩ := X
  obtain ⟨⟨ty0, hty⟩, hnm⟩ := bc_cl_ty ci _ hc
  dsimp only at hty hnm
  have hin : ∀ w ∈ u_ws C T N, w ∈ bc_GW := fun w h' => bc_cl_in ci _ hc w h'
  have hap := va_apart (own := own) hgw hin ty0 hty hnm hK.1 hc
  obtain ⟨r, h1, cell, q1, q2, q3, q4⟩ := hat
  have hr : r = (C, T, N) := Option.some.inj (h1.symm.trans hc)
  subst hr
  obtain ⟨hSl, hfc, kC, hkC, hkind⟩ := hK.1.1 ci _ hc
  obtain ⟨cf, kf, fi, f, hi, hsl⟩ := hSl k hk
  have hlay := hgw _ (hin _ (u_in_lay hk))
  unfold u_lay at hlay
  have hst := (u_facts hfc hkC (u_lays hgw hin hk) hi).1
  have hlink := hgw _ (bc_inG_mem hw)
  have hi2 : s.fieldFound? C (T k).2.1 (T k).2.2.1 = some (cf, kf, fi, f) := by rw [← hsame]; exact hi
  by_cases hfin : (T k).2.2.2 = true
  · rw [if_pos hfin] at hlay
    have hcf : m.cls = cf := by
      obtain ⟨_, _, c', _, _, _, -, -, hf', -, -, -, hown2, -⟩ := Cond.laysFinal_spec hlay
      have e1 : c' = cf := by have := hi.symm.trans hf'; simp at this; exact this.1.symm
      rw [hdecl] at hown2
      rw [← e1]; exact Option.some.inj (hown.symm.trans hown2)
    have h6 := u_fits hfc hkC hkind (Or.inr hlay) hi hd hn hfit
    refine W.putFinK hx hb hown hlink hi2 hst hcf hin2 (by rw [q2]; exact h6) q1 q3 (by rw [hsl]; exact k2_hasslot (q4 k hk)) rfl rfl hdg fun H' e1 e2 e3 => ?_
    rw [hsl] at e1 ⊢
    exact kk H' _ e2 ⟨_, hc, t_OB.to (V := updV (vp_V fs) k v) ⟨_, e1, q2, q3, t_set q4 hap hk v⟩ (fun j _ => vp_updV_set hl v j)⟩ e3 (hS.put e2 e3 hAa)
  · rw [if_neg hfin] at hlay
    have h6 := u_store hfc hkC hkind hlay hi hd hn hfit
    refine W.putK hx hb (f := f) ⟨hown, hlink, ⟨_, _, _, hi2⟩, hst⟩ (by rw [q2]; exact h6) q1 q3 (by rw [hsl]; exact k2_hasslot (q4 k hk)) rfl rfl hdg fun H' e1 e2 e3 => ?_
    rw [hsl] at e1 ⊢
    exact kk H' _ e2 ⟨_, hc, t_OB.to (V := updV (vp_V fs) k v) ⟨_, e1, q2, q3, t_set q4 hap hk v⟩ (fun j _ => vp_updV_set hl v j)⟩ e3 (hS.put e2 e3 hAa)
theorem kx_obj {idx pos a : Nat} (X : kc_X p s m args c cc own) (hls : ls.size = c.maxLocals) (hw : bc_inG pos (.methodLink own idx objectInit) = true) (hR : 1 ≤ R.frames ∧ (rest.map fun v => v.category).sum + 12 ≤ R.locals) (hdg : decode cc pc = .ok (.invokespecial idx, 3)) (kk : W p l e R s m args below meth c H locs cells slots Q (F0 m (pc + 3) ls rest)) : W p l e R s m args below meth c H locs cells slots Q (F0 m pc ls (.ref a :: rest)) := by
  obtain ⟨hx, hb, hown, hgw⟩ := X
  have w2 : bc_inG 100 (.instanceMethod objectInit) = true := by decide +kernel
  have w3 : bc_inG 101 (.code objectInit ⟨#[0xb1]⟩ 1 none) = true := by decide +kernel
  refine W.objInit hx hb hown (hgw _ (bc_inG_mem hw)) (hgw _ (bc_inG_mem w2)) (hgw _ (bc_inG_mem w3)) rfl hls rfl hdg hR.1 ?_ ?_
  · show 2 * 0 + _ + 12 ≤ _
    omega
  · exact kk
end Made
