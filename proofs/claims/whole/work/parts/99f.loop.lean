/-! the law's head and its loop (printed by gen_loop.py) -/
section LawLoop
variable {p : Program} {l : Launch} {e : Env} {s : State} {m : MethodId} {below : List Frame} {meth : Method} {c : Code} {b L : Nat} {xs : Nat → Int32} {Z : bc_ZT} {A : Nat → Prop}
theorem lc_798 (C : lc_X p s m c #[Value.ref b] b L xs Z A) (hAs : ∀ q, A q → s.heap.size ≤ q) (hr : meth.sig.returnType = ret) (hlocks : meth.locks = false) {i cells slots : Nat} {h : bc_AH} (hroomc : cells ≤ 601024 ∧ slots ≤ 7293034) : lc_W p l e s m #[Value.ref b] below meth c (lw_Z below #[Value.ref b] s) b Z A 798 i [] h cells slots := by
  intro H locs ls hP hS hL
  have d798 : decode code 798 = .ok (.iconst 1, 1) := by decide +kernel
  have d799 : decode code 799 = .ok (.ireturn, 1) := by decide +kernel
  refine lv_iconst C.1 C.2.1 d798 rfl ?_
  refine va_forget (fun q hq => hAs _ (hS.2.2 q hq)) ?_
  exact W.widen hroomc.1 hroomc.2 (lw_ret C.1 C.2.1 hr hlocks d799)
theorem lc_head {Q : State → Prop} {args : Array Value} (C : lc_X p s m c args b L xs Z A) {i cells slots : Nat} {h : bc_AH} (hi : i ≤ 4000) (ke : lc_W p l e s m args below meth c Q b Z A 798 i [] h cells slots) (k : i + 6 ≤ L → ∀ t ∈ [140, 213, 238, 251, 264, 289, 357, 382, 419, 444, 469, 494, 507, 544, 569, 594, 667, 692, 741, 766, 779, 792], lc_W p l e s m args below meth c Q b Z A t i [] h cells slots) : lc_W p l e s m args below meth c Q b Z A 23 i [] h cells slots := by
  intro H locs ls hP hS hL
  have hL3 : L ≤ 3072 := C.2.2.2.2.2.2.2.2.2.2
  have hx := C.1
  have hb := C.2.1
  have d23 : decode code 23 = .ok (.iload 4, 2) := by decide +kernel
  have d25 : decode code 25 = .ok (.aload_n 0, 1) := by decide +kernel
  have d26 : decode code 26 = .ok (.arraylength, 1) := by decide +kernel
  have d27 : decode code 27 = .ok (.bipush 6, 2) := by decide +kernel
  have d29 : decode code 29 = .ok (.isub, 1) := by decide +kernel
  have d30 : decode code 30 = .ok (.if_icmp .gt 768, 3) := by decide +kernel
  have d33 : decode code 33 = .ok (.aload_n 0, 1) := by decide +kernel
  have d34 : decode code 34 = .ok (.iload 4, 2) := by decide +kernel
  have d36 : decode code 36 = .ok (.iaload, 1) := by decide +kernel
  have d37 : decode code 37 = .ok (.bipush 31, 2) := by decide +kernel
  have d39 : decode code 39 = .ok (.iand, 1) := by decide +kernel
  have d40 : decode code 40 = .ok (.tableswitch 752 0 20 #[100, 173, 198, 211, 224, 249, 317, 342, 379, 404, 429, 454, 467, 504, 529, 554, 627, 652, 701, 726, 739], 100) := by decide +kernel
  refine lv_iload hx hb d23 hL.2.2.2.2.2.2 ?_
  refine lv_aload_n hx hb d25 rfl hL.2.2.1 ?_
  refine va_slen hx hb C.2.2.2.2.2.2.2.1 C.2.2.2.2.2.2.2.2.1 C.2.2.2.2.2.2.2.2.2.1 hS d26 ?_
  refine lv_bipush (v := Int32.ofInt 6) hx hb d27 (by decide +kernel) ?_
  refine lv_isub hx hb d29 ?_
  have e1 : Int32.ofNat L - Int32.ofInt 6 = Int32.ofInt ((L : Int) - 6) := by
    rw [Int32.ofInt_sub]; rfl
  rw [e1]
  have hvi : bc_vr (i : Int) := ⟨by omega, by omega⟩
  have hvl : bc_vr ((L : Int) - 6) := ⟨by omega, by omega⟩
  refine lv_icmp_gt (off := 768) (tgt := 798) hx hb d30 (by decide) (fun _ => ke H locs ls hP hS hL) (fun q => ?_)
  have hi6 : i + 6 ≤ L := by
    have : ¬ ((L : Int) - 6 < (i : Int)) := fun z => q ((bc_lt hvl hvi).mpr z)
    omega
  have kt := fun t ht => k hi6 t ht H locs ls hP hS hL
  refine lv_aload_n hx hb d33 rfl hL.2.2.1 ?_
  refine lv_iload hx hb d34 hL.2.2.2.2.2.2 ?_
  refine va_sld hx hb C.2.2.2.2.2.2.2.1 C.2.2.2.2.2.2.2.2.1 C.2.2.2.2.2.2.2.2.2.1 hS (bc_in2 (by omega) (by omega) (by omega)) d36 ?_
  refine lv_bipush (v := Int32.ofInt 31) hx hb d37 (by decide +kernel) ?_
  refine lv_iand hx hb d39 ?_
  generalize xs (Int32.ofInt (i : Int)).toNatClampNeg &&& Int32.ofInt 31 = x
  by_cases hin : x.toInt < 0 ∨ 20 < x.toInt
  · exact lv_tableOut (tgt := 792) hx hb d40 hin (by decide) (kt 792 (by decide))
  · have h1 : ¬ x.toInt < 0 := fun z => hin (Or.inl z)
    have h2 : ¬ 20 < x.toInt := fun z => hin (Or.inr z)
    have h3 : x.toInt = 0 ∨ x.toInt = 1 ∨ x.toInt = 2 ∨ x.toInt = 3 ∨ x.toInt = 4 ∨ x.toInt = 5 ∨ x.toInt = 6 ∨ x.toInt = 7 ∨ x.toInt = 8 ∨ x.toInt = 9 ∨ x.toInt = 10 ∨ x.toInt = 11 ∨ x.toInt = 12 ∨ x.toInt = 13 ∨ x.toInt = 14 ∨ x.toInt = 15 ∨ x.toInt = 16 ∨ x.toInt = 17 ∨ x.toInt = 18 ∨ x.toInt = 19 ∨ x.toInt = 20 := by omega
    rcases h3 with q | q | q | q | q | q | q | q | q | q | q | q | q | q | q | q | q | q | q | q | q
    · exact lv_tableIn (tgt := 140) (off := 100) hx hb d40 h1 h2 (by rw [q]; rfl) (by decide) (kt 140 (by decide))
    · exact lv_tableIn (tgt := 213) (off := 173) hx hb d40 h1 h2 (by rw [q]; rfl) (by decide) (kt 213 (by decide))
    · exact lv_tableIn (tgt := 238) (off := 198) hx hb d40 h1 h2 (by rw [q]; rfl) (by decide) (kt 238 (by decide))
    · exact lv_tableIn (tgt := 251) (off := 211) hx hb d40 h1 h2 (by rw [q]; rfl) (by decide) (kt 251 (by decide))
    · exact lv_tableIn (tgt := 264) (off := 224) hx hb d40 h1 h2 (by rw [q]; rfl) (by decide) (kt 264 (by decide))
    · exact lv_tableIn (tgt := 289) (off := 249) hx hb d40 h1 h2 (by rw [q]; rfl) (by decide) (kt 289 (by decide))
    · exact lv_tableIn (tgt := 357) (off := 317) hx hb d40 h1 h2 (by rw [q]; rfl) (by decide) (kt 357 (by decide))
    · exact lv_tableIn (tgt := 382) (off := 342) hx hb d40 h1 h2 (by rw [q]; rfl) (by decide) (kt 382 (by decide))
    · exact lv_tableIn (tgt := 419) (off := 379) hx hb d40 h1 h2 (by rw [q]; rfl) (by decide) (kt 419 (by decide))
    · exact lv_tableIn (tgt := 444) (off := 404) hx hb d40 h1 h2 (by rw [q]; rfl) (by decide) (kt 444 (by decide))
    · exact lv_tableIn (tgt := 469) (off := 429) hx hb d40 h1 h2 (by rw [q]; rfl) (by decide) (kt 469 (by decide))
    · exact lv_tableIn (tgt := 494) (off := 454) hx hb d40 h1 h2 (by rw [q]; rfl) (by decide) (kt 494 (by decide))
    · exact lv_tableIn (tgt := 507) (off := 467) hx hb d40 h1 h2 (by rw [q]; rfl) (by decide) (kt 507 (by decide))
    · exact lv_tableIn (tgt := 544) (off := 504) hx hb d40 h1 h2 (by rw [q]; rfl) (by decide) (kt 544 (by decide))
    · exact lv_tableIn (tgt := 569) (off := 529) hx hb d40 h1 h2 (by rw [q]; rfl) (by decide) (kt 569 (by decide))
    · exact lv_tableIn (tgt := 594) (off := 554) hx hb d40 h1 h2 (by rw [q]; rfl) (by decide) (kt 594 (by decide))
    · exact lv_tableIn (tgt := 667) (off := 627) hx hb d40 h1 h2 (by rw [q]; rfl) (by decide) (kt 667 (by decide))
    · exact lv_tableIn (tgt := 692) (off := 652) hx hb d40 h1 h2 (by rw [q]; rfl) (by decide) (kt 692 (by decide))
    · exact lv_tableIn (tgt := 741) (off := 701) hx hb d40 h1 h2 (by rw [q]; rfl) (by decide) (kt 741 (by decide))
    · exact lv_tableIn (tgt := 766) (off := 726) hx hb d40 h1 h2 (by rw [q]; rfl) (by decide) (kt 766 (by decide))
    · exact lv_tableIn (tgt := 779) (off := 739) hx hb d40 h1 h2 (by rw [q]; rfl) (by decide) (kt 779 (by decide))
theorem lc_loop (C : lc_X p s m c #[Value.ref b] b L xs Z A) (hl : l.stackTraces = false) (hT : bx_T A s s.heap) (hAs : ∀ q, A q → s.heap.size ≤ q) (hr : meth.sig.returnType = ret) (hlocks : meth.locks = false) : ∀ (f i cells slots : Nat) (h : bc_AH), L - i ≤ f → i ≤ 4000 → lc_I h → cells + (L - i) ≤ 601024 → slots + 6 * (L - i) ≤ 7293034 → lc_W p l e s m #[Value.ref b] below meth c (lw_Z below #[Value.ref b] s) b Z A 23 i [] h cells slots := by
  have hL3 : L ≤ 3072 := C.2.2.2.2.2.2.2.2.2.2
  intro f
  induction f with
  | zero => intro i cells slots h hf hi hI hc hs; exact lc_head C hi (lc_798 C hAs hr hlocks ⟨by omega, by omega⟩) (fun q => by omega)
  | succ f ih =>
    intro i cells slots h hf hi hI hc hs
    refine lc_head C hi (lc_798 C hAs hr hlocks ⟨by omega, by omega⟩) (fun q t ht => ?_)
    have hroomc : cells ≤ 601024 ∧ slots ≤ 7293034 := ⟨by omega, by omega⟩
    have kk : ∀ h', lc_I h' → lc_W p l e s m #[Value.ref b] below meth c (lw_Z below #[Value.ref b] s) b Z A 792 i [] h' cells slots := fun h' hI' => lc_792 C (ih (i + 6) cells slots h' (by omega) (by omega) hI' (by omega) (by omega))
    rcases List.mem_cons.mp ht with e9 | ht
    · rw [e9]; exact lc_feed C q hI hroomc kk
    rcases List.mem_cons.mp ht with e9 | ht
    · rw [e9]; exact lc_end C q hI hroomc kk
    rcases List.mem_cons.mp ht with e9 | ht
    · rw [e9]; exact lc_text C q hI hroomc kk
    rcases List.mem_cons.mp ht with e9 | ht
    · rw [e9]; exact lc_fault C hI hroomc kk
    rcases List.mem_cons.mp ht with e9 | ht
    · rw [e9]; exact lc_now C q hI hroomc kk
    rcases List.mem_cons.mp ht with e9 | ht
    · rw [e9]; exact lc_order C hl hT q hI ⟨by omega, by omega⟩ (fun h' hI' => lc_792 C (ih (i + 6) (cells + 1) (slots + 6) h' (by omega) (by omega) hI' (by omega) (by omega)))
    rcases List.mem_cons.mp ht with e9 | ht
    · rw [e9]; exact lc_rank C q hI hroomc kk
    rcases List.mem_cons.mp ht with e9 | ht
    · rw [e9]; exact lc_chosen C q hI hroomc kk
    rcases List.mem_cons.mp ht with e9 | ht
    · rw [e9]; exact lc_fill C q hI hroomc kk
    rcases List.mem_cons.mp ht with e9 | ht
    · rw [e9]; exact lc_why C q hI hroomc kk
    rcases List.mem_cons.mp ht with e9 | ht
    · rw [e9]; exact lc_volume C q hI hroomc kk
    rcases List.mem_cons.mp ht with e9 | ht
    · rw [e9]; exact lc_best C q hI hroomc kk
    rcases List.mem_cons.mp ht with e9 | ht
    · rw [e9]; exact lc_were C q hI hroomc kk
    rcases List.mem_cons.mp ht with e9 | ht
    · rw [e9]; exact lc_worth C q hI hroomc kk
    rcases List.mem_cons.mp ht with e9 | ht
    · rw [e9]; exact lc_reach C q hI hroomc kk
    rcases List.mem_cons.mp ht with e9 | ht
    · rw [e9]; exact lc_come C q hI hroomc kk
    rcases List.mem_cons.mp ht with e9 | ht
    · rw [e9]; exact lc_withdraw C q hI hroomc kk
    rcases List.mem_cons.mp ht with e9 | ht
    · rw [e9]; exact lc_amend C q hI hroomc kk
    rcases List.mem_cons.mp ht with e9 | ht
    · rw [e9]; exact lc_mid C q hI hroomc kk
    rcases List.mem_cons.mp ht with e9 | ht
    · rw [e9]; exact lc_run C q hI hroomc kk
    rcases List.mem_cons.mp ht with e9 | ht
    · rw [e9]; exact lc_undo C q hI hroomc kk
    rcases List.mem_cons.mp ht with e9 | ht
    · rw [e9]; exact kk h hI
    · cases ht
end LawLoop
