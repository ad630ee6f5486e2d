/-! the start: what the law's entry gives, the first picture, the objects made (printed by gen_start.py) -/
def kc_h0 : bc_AH := fun c j => if c = 106 then pd_D0 j else if c = 22 then (if j = 5 then -1 else 0) else if c = 4 ∨ c = 13 ∨ (32 ≤ c ∧ c < 104 ∧ (c - 32) % 9 = 0) then (if j = 12 ∨ j = 13 then -1 else 0) else 0
theorem kz_I : lc_I kc_h0 := by
  refine ⟨fun _ => 0, 0, 0, pd_D0, [], ⟨⟨rfl, fun i hi => by omega⟩, rfl, ⟨⟨rfl, rfl, rfl, rfl, rfl, rfl, rfl⟩, fun o ho => ?_⟩, rfl, 0, by omega, rfl, rfl, fun j E hE => by simp at hE⟩, ⟨⟨rfl, fun i hi => by omega⟩, rfl, fun i hi => ?_, rfl, fun j E hE => by simp at hE⟩, ⟨⟨by omega, by omega⟩, fun i hi => by omega, pd_D0_DI.1, by simp, fun E hE => by cases hE⟩⟩
  · have : pd_D0 0 = 0 := rfl
    rw [this] at ho
    omega
  · unfold kc_h0; rw [if_pos rfl]
theorem kz_inst : ∀ q ∈ vwCl, Cond.instantiable q.1 q.2.2 ∈ lw_tbl := by
  refine List.forall_mem_cons.mpr ⟨List.mem_of_getElem? (i := 223) (by decide +kernel), List.forall_mem_cons.mpr ⟨List.mem_of_getElem? (i := 149) (by decide +kernel), List.forall_mem_cons.mpr ⟨List.mem_of_getElem? (i := 282) (by decide +kernel), List.forall_mem_cons.mpr ⟨List.mem_of_getElem? (i := 119) (by decide +kernel), List.forall_mem_cons.mpr ⟨List.mem_of_getElem? (i := 229) (by decide +kernel), List.forall_mem_cons.mpr ⟨List.mem_of_getElem? (i := 103) (by decide +kernel), List.forall_mem_cons.mpr ⟨List.mem_of_getElem? (i := 95) (by decide +kernel), List.forall_mem_cons.mpr ⟨List.mem_of_getElem? (i := 758) (by decide +kernel), fun _ h => by cases h⟩⟩⟩⟩⟩⟩⟩⟩
theorem kz_known {s : State} {args : Array Value} (hts : ∀ w ∈ lw_tbl, w.before args s = true) : ∃ (g : va_G) (cI cL cD : ClassId), va_K g vwCl [(cI, .int), (cL, .long), (cD, .object "BlockCross$Desk")] s := by
  have h : ∀ ci : Nat, ∃ x : ClassId × (Nat → Nat), ∀ q, vwCl[ci]? = some q → u_Kn s q.1 q.2.1 q.2.2 x.1 x.2 := by
    intro ci
    cases hq : vwCl[ci]? with
    | none => exact ⟨(default, fun _ => 0), fun q h => by cases h⟩
    | some q =>
      obtain ⟨cC, iS, hk⟩ := u_known (C := q.1) (T := q.2.1) (N := q.2.2) (n := q.2.2) hts (fun w hw => (List.mem_filter.mp (bc_cl_in ci q hq w hw)).1) (hts _ (kz_inst q (List.mem_of_getElem? hq)))
      exact ⟨(cC, iS), fun q' h => by cases h; exact hk⟩
  obtain ⟨x, hx⟩ := Classical.axiomOfChoice h
  obtain ⟨cI, kI, pI, i1, i2, i3⟩ := Cond.arrayClass_spec (hts (.arrayClass .int) (List.mem_of_getElem? (i := 117) (by decide +kernel)))
  obtain ⟨cL, kL, pL, l1, l2, l3⟩ := Cond.arrayClass_spec (hts (.arrayClass .long) (List.mem_of_getElem? (i := 1058) (by decide +kernel)))
  obtain ⟨pD, cD, kD, o1, o2, o3, o4, o5⟩ := Cond.arrayOver_spec (hts (.arrayOver (.object "BlockCross$Desk")) (List.mem_of_getElem? (i := 288) (by decide +kernel)))
  refine ⟨(fun c => (x c).1, fun c => (x c).2), cI, cL, cD, fun c q hq => hx c q hq, fun k q hk => ?_⟩
  match k, hk with
  | 0, hk => cases hk; exact ⟨fun n z => ⟨fun k h => (by cases h), kI, i2, pI, i3⟩, i1⟩
  | 1, hk => cases hk; exact ⟨fun n z => ⟨fun k h => (by cases h), kL, l2, pL, l3⟩, l1⟩
  | 2, hk => cases hk; exact ⟨fun n z => ⟨fun k h => (by cases h), kD, o3, pD, o4⟩, kD, pD, o3, o4, o1, o5⟩
def kz_tm (i : Nat) : Term := .string "BlockCross$Reader" (bc_lit i).1
theorem kz_ad {a : Nat} {adK adV : Nat → Nat} {i : Nat} (hi : i < 3) : (fun k => if k < 1000 then a + k else if k < 1100 then adK (k - 1000) else adV (k - 1100)) (1000 + i) = adK i ∧ (fun k => if k < 1000 then a + k else if k < 1100 then adK (k - 1000) else adV (k - 1100)) (1100 + i) = adV i := by
  dsimp only
  rw [if_neg (by omega), if_pos (by omega), if_neg (by omega), if_neg (by omega), show 1000 + i - 1000 = i by omega, show 1100 + i - 1100 = i by omega]
  exact ⟨rfl, rfl⟩
theorem kz_strings {s : State} {b : Nat} (hgv : (Jvm.Cond.and given_1 narrow_1).before #[Value.ref b] s = true) : ∃ adK adV : Nat → Nat, vk_S 3 bc_slen bc_sbyt adK adV (fun q => s.heap.size ≤ q) s s.heap ∧ ∀ i : Nat, i < 3 → (kz_tm i).eval #[Value.ref b] s none [] s = some (.ref (adK i)) := by
  have hs := flat_of_before _ hgv
  refine vk_Sof (tm := kz_tm) (fun i hi => ?_) (fun i hi => ?_) (fun i hi => ?_) (fun i hi => ?_) (fun i hi => ?_) (fun i hi j hj => ?_) (fun i j hi hj hij => ?_) (fun q hq h => by omega)
  · match i, hi with
    | 0, _ => decide
    | 1, _ => decide
    | 2, _ => decide
  · match i, hi with
    | 0, _ => exact hs _ (by decide +kernel)
    | 1, _ => exact hs _ (by decide +kernel)
    | 2, _ => exact hs _ (by decide +kernel)
  · match i, hi with
    | 0, _ => exact hs _ (by decide +kernel)
    | 1, _ => exact hs _ (by decide +kernel)
    | 2, _ => exact hs _ (by decide +kernel)
  · match i, hi with
    | 0, _ => exact hs _ (by decide +kernel)
    | 1, _ => exact hs _ (by decide +kernel)
    | 2, _ => exact hs _ (by decide +kernel)
  · match i, hi with
    | 0, _ => exact hs _ (by decide +kernel)
    | 1, _ => exact hs _ (by decide +kernel)
    | 2, _ => exact hs _ (by decide +kernel)
  · match i, hi, j, hj with
    | 0, _, 0, _ => exact hs _ (by decide +kernel)
    | 0, _, 1, _ => exact hs _ (by decide +kernel)
    | 0, _, 2, _ => exact hs _ (by decide +kernel)
    | 1, _, 0, _ => exact hs _ (by decide +kernel)
    | 1, _, 1, _ => exact hs _ (by decide +kernel)
    | 1, _, 2, _ => exact hs _ (by decide +kernel)
    | 2, _, 0, _ => exact hs _ (by decide +kernel)
    | 2, _, 1, _ => exact hs _ (by decide +kernel)
    | 2, _, 2, _ => exact hs _ (by decide +kernel)
    | 2, _, 3, _ => exact hs _ (by decide +kernel)
    | 0, _, k + 3, h => exact absurd h (by show ¬ k + 3 < 3; omega)
    | 1, _, k + 3, h => exact absurd h (by show ¬ k + 3 < 3; omega)
    | 2, _, k + 4, h => exact absurd h (by show ¬ k + 4 < 4; omega)
  · match i, hi, j, hj with
    | 0, _, 0, _ => exact absurd rfl hij
    | 0, _, 1, _ => exact Or.inl (hs _ (by decide +kernel))
    | 0, _, 2, _ => exact Or.inl (hs _ (by decide +kernel))
    | 1, _, 0, _ => exact Or.inr (hs _ (by decide +kernel))
    | 1, _, 1, _ => exact absurd rfl hij
    | 1, _, 2, _ => exact Or.inl (hs _ (by decide +kernel))
    | 2, _, 0, _ => exact Or.inr (hs _ (by decide +kernel))
    | 2, _, 1, _ => exact Or.inr (hs _ (by decide +kernel))
    | 2, _, 2, _ => exact absurd rfl hij
theorem kz_ST {s : State} {b a : Nat} {g : va_G} {cI cL cD : ClassId} {adK adV : Nat → Nat} (hts : ∀ w ∈ lw_tbl, w.before #[Value.ref b] s = true) (hgv : (Jvm.Cond.and given_1 narrow_1).before #[Value.ref b] s = true) (h1 : vk_S 3 bc_slen bc_sbyt adK adV (fun q => s.heap.size ≤ q) s s.heap) (h2 : ∀ i : Nat, i < 3 → (kz_tm i).eval #[Value.ref b] s none [] s = some (.ref (adK i))) : bc_ST (g, (fun k => if k < 1000 then a + k else if k < 1100 then adK (k - 1000) else adV (k - 1100)), cI, cL, cD) (fun q => s.heap.size ≤ q) s s.heap := by
  have hs := flat_of_before _ hgv
  refine ⟨fun i hi => ?_, ⟨fun i hi => ?_, fun i j hi hj q => ?_⟩, ?_, ?_⟩
  · have e := (kz_ad (a := a) (adK := adK) (adV := adV) hi).1
    show vk_R "BlockCross$Reader" (bc_lit i).1 (bc_lit i).2 ((fun k => if k < 1000 then a + k else if k < 1100 then adK (k - 1000) else adV (k - 1100)) (1000 + i)) s
    rw [e]
    refine vk_R.of (A := #[Value.ref b]) ?_ (h2 i hi)
    match i, hi with
    | 0, _ => exact hts _ (List.mem_of_getElem? (i := 376) (by decide +kernel))
    | 1, _ => exact hts _ (List.mem_of_getElem? (i := 445) (by decide +kernel))
    | 2, _ => exact hts _ (List.mem_of_getElem? (i := 446) (by decide +kernel))
  · have e := kz_ad (a := a) (adK := adK) (adV := adV) hi
    dsimp only at e ⊢
    rw [e.1, e.2]
    exact h1.1 i hi
  · have e := (kz_ad (a := a) (adK := adK) (adV := adV) hi).1
    have e' := (kz_ad (a := a) (adK := adK) (adV := adV) hj).1
    dsimp only at e e' q
    rw [e, e'] at q
    exact h1.2 i j hi hj q
  · exact va_Zof (args := #[Value.ref b]) (hts _ (List.mem_of_getElem? (i := 390) (by decide +kernel))) (hts _ (List.mem_of_getElem? (i := 84) (by decide +kernel))) (va_eqi (hs _ (by decide +kernel))) (fun q hq h => by omega)
  · exact va_Zqof (args := #[Value.ref b]) (hts _ (List.mem_of_getElem? (i := 406) (by decide +kernel))) (hts _ (List.mem_of_getElem? (i := 86) (by decide +kernel))) (hs _ (by decide +kernel)) (fun q hq h => by omega)
theorem kz_T {s : State} {b : Nat} (hts : ∀ w ∈ lw_tbl, w.before #[Value.ref b] s = true) (hgv : (Jvm.Cond.and given_1 narrow_1).before #[Value.ref b] s = true) : bx_T (fun q => s.heap.size ≤ q) s s.heap := by
  have hs := flat_of_before _ hgv
  exact ⟨va_Nw.of (A := #[Value.ref b]) rfl (hts _ (List.mem_of_getElem? (i := 689) (by decide +kernel))), va_Nw.of (A := #[Value.ref b]) rfl (hts _ (List.mem_of_getElem? (i := 691) (by decide +kernel))), va_Nw.of (A := #[Value.ref b]) rfl (hts _ (List.mem_of_getElem? (i := 693) (by decide +kernel))), va_Nw.of (A := #[Value.ref b]) rfl (hts _ (List.mem_of_getElem? (i := 688) (by decide +kernel))),
    vx_Zqof (args := #[Value.ref b]) (hts _ (List.mem_of_getElem? (i := 713) (by decide +kernel))) (hts _ (List.mem_of_getElem? (i := 89) (by decide +kernel))) (hs _ (by decide +kernel)) (fun q hq h => by omega), vx_Zqof (args := #[Value.ref b]) (hts _ (List.mem_of_getElem? (i := 715) (by decide +kernel))) (hts _ (List.mem_of_getElem? (i := 89) (by decide +kernel))) (hs _ (by decide +kernel)) (fun q hq h => by omega)⟩
theorem kz_NW {s : State} {args : Array Value} (hts : ∀ w ∈ lw_tbl, w.before args s = true) : ∀ w ∈ bc_NW, va_Nw w s := by
  intro w hw
  obtain ⟨h1, h2⟩ := List.mem_filter.mp hw
  have h3 := hts w h1
  cases w <;> first | exact va_Nw.of rfl h3 | (simp [bc_isN] at h2)

