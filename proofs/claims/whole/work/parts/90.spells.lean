/-! Reader.spells -/
section Spells
variable {d : Nat} {h : bc_AH} {post : Option bc_AV → bc_AH → Prop} {T : Nat → Int} {n : Nat}
theorem bc_good38 : bc_good 38 = true ∧ bc_good 52 = true := by decide +kernel
/-- the loop: the first j letters are the word's -/
theorem l3_sp_28 (hB : pd_TB T n) (hT : pd_TC T (n : Int) h) {s i : Nat} (hi : i < 3) (e2 : h 3 2 = (s : Int)) (hs : s + bc_slen.getD i 0 ≤ n) (k1 : (∀ j, j < bc_slen.getD i 0 → T (s + j) = bc_by8 i j) → post (some (.inl 1)) h) (k0 : ¬ (∀ j, j < bc_slen.getD i 0 → T (s + j) = bc_by8 i j) → post (some (.inl 0)) h) : ∀ (m j : Nat), m + j = bc_slen.getD i 0 → (∀ q, q < j → T (s + q) = bc_by8 i q) → bc_ATr (d + 4) 38 post 28 [some (.inr (.inr 3)), some (.inr (.inr (1000 + i))), some (.inl (j : Int))] [] h := by
  have h440 := hB.1
  have hl4 : bc_slen.getD i 0 ≤ 4 := by
    have : ∀ i, i < 3 → bc_slen.getD i 0 ≤ 4 := by decide +kernel
    exact this i hi
  have len : ∀ {pc : Nat} {loc : List (Option bc_AV)} {st' : List bc_AV}, decode (bc_by 38) pc = .ok (.invokevirtual 108, 3) → (st'.map bc_cat).sum ≤ 8 → bc_ATr (d + 4) 38 post (pc + 3) loc (.inl (bc_slen.getD i 0 : Int) :: st') h → bc_ATr (d + 4) 38 post pc loc (.inr (.inr (1000 + i)) :: st') h := fun {pc loc st'} hd hc hn => by
    refine bc_s_vstr (d := d + 4) (mj := 139) (idx := 108) (pos := 381) (i := i) (as := []) (st' := st') hi hd bc_k139 (by decide +kernel) rfl rfl hc (c_slen (d := d + 2) (post := fun r x => r = some (.inl (bc_slen.getD i 0 : Int)) ∧ x = h) hi ⟨rfl, rfl⟩) (fun r x hp => ?_)
    obtain ⟨hr, hx⟩ := hp
    rw [hr, hx]
    exact hn
  intro m
  induction m with
  | zero =>
    intro j hj hq
    refine bc_s_iload_n (k := 2) (i := 2) (x := (j : Int)) (by decide +kernel) rfl rfl ?_
    refine bc_s_aload_n (k := 1) (i := 1) (x := 1000 + i) (by decide +kernel) rfl rfl ?_
    refine len (by decide +kernel) (Nat.le_of_ble_eq_true rfl) ?_
    refine bc_s_icmp (k := .ge) (off := 32) (t := 65) (by decide +kernel) (by decide) ⟨by omega, by omega⟩ ⟨by omega, by omega⟩ (fun _ => ?_) (fun z => absurd (show (bc_slen.getD i 0 : Int) ≤ (j : Int) by omega) z)
    refine bc_s_iconst (n := 1) (by decide +kernel) ?_
    exact bc_s_ireturn (by decide +kernel) (Or.inr ⟨rfl, Or.inr rfl⟩) (k1 (fun q hq2 => hq q (by omega)))
  | succ m ih =>
    intro j hj hq
    have hbt := hB.2 (s + j) (by omega)
    have hb8 := bc_by8_b i hi j (by omega)
    refine bc_s_iload_n (k := 2) (i := 2) (x := (j : Int)) (by decide +kernel) rfl rfl ?_
    refine bc_s_aload_n (k := 1) (i := 1) (x := 1000 + i) (by decide +kernel) rfl rfl ?_
    refine len (by decide +kernel) (Nat.le_of_ble_eq_true rfl) ?_
    refine bc_s_icmp (k := .ge) (off := 32) (t := 65) (by decide +kernel) (by decide) ⟨by omega, by omega⟩ ⟨by omega, by omega⟩ (fun z => absurd z (by show ¬ (bc_slen.getD i 0 : Int) ≤ (j : Int); omega)) (fun _ => ?_)
    sorry
end Spells
