/-! Reader.spells -/
section Spells
variable {d : Nat} {h : bc_AH} {post : Option bc_AV → bc_AH → Prop} {T : Nat → Int} {n : Nat}
theorem bc_good38 : bc_good 38 = true ∧ bc_good 52 = true := by decide +kernel
/-- the loop: the first j letters are the word's -/
theorem l3_sp_28 (hB : pd_TB T n) (hT : pd_TC T (n : Int) h) {s i : Nat} (hi : i < 3) (e2 : h 3 2 = (s : Int)) (hs : s + bc_slen.getD i 0 ≤ n) (k1 : (∀ j, j < bc_slen.getD i 0 → T (s + j) = bc_by8 i j) → post (some (.inl 1)) h) (k0 : ¬ (∀ j, j < bc_slen.getD i 0 → T (s + j) = bc_by8 i j) → post (some (.inl 0)) h) : ∀ (m j : Nat), m + j = bc_slen.getD i 0 → (∀ q, q < j → T (s + q) = bc_by8 i q) → bc_ATr (d + 4) 38 post 28 [some (.inr (.inr 3)), some (.inr (.inr (1000 + i))), some (.inl (j : Int))] [] h := by
  have h440 := hB.1
  have hl4 : bc_slen.getD i 0 ≤ 4 := by
    have : ∀ i, i < 3 → bc_slen.getD i 0 ≤ 4 := by decide +kernel
    exact this i hi
  have len : ∀ {pc : Nat} {loc : List (Option bc_AV)} {st' : List bc_AV}, decode (bc_by 38) pc = .ok (.invokevirtual 108, 3) → (st'.map bc_cat).sum ≤ 8 → bc_ATr (d + 4) 38 post (pc + 3) loc (.inl (bc_slen.getD i 0 : Int) :: st') h → bc_ATr (d + 4) 38 post pc loc (.inr (.inr (1000 + i)) :: st') h := fun {pc loc st'} hd hc hn => by
    refine bc_s_vstr (d := d + 4) (mj := 139) (idx := 108) (pos := 381) (i := i) (as := []) (st' := st') hi hd bc_k139 (by decide +kernel) rfl rfl hc (c_slen (d := d + 2) (post := fun r x => r = some (.inl (bc_slen.getD i 0 : Int)) ∧ x = h) hi ⟨rfl, rfl⟩) (fun r x hp => ?_)
    obtain ⟨hr, hx⟩ := hp
    rw [hr, hx]
    exact hn
  intro m
  induction m with
  | zero =>
    intro j hj hq
    refine bc_s_iload_n (k := 2) (i := 2) (x := (j : Int)) (by decide +kernel) rfl rfl ?_
    refine bc_s_aload_n (k := 1) (i := 1) (x := 1000 + i) (by decide +kernel) rfl rfl ?_
    refine len (by decide +kernel) (Nat.le_of_ble_eq_true rfl) ?_
    refine bc_s_icmp (k := .ge) (off := 32) (t := 65) (by decide +kernel) (by decide) ⟨by omega, by omega⟩ ⟨by omega, by omega⟩ (fun _ => ?_) (fun z => absurd (show (bc_slen.getD i 0 : Int) ≤ (j : Int) by omega) z)
    refine bc_s_iconst (n := 1) (by decide +kernel) ?_
    exact bc_s_ireturn (by decide +kernel) (Or.inr ⟨rfl, Or.inr rfl⟩) (k1 (fun q hq2 => hq q (by omega)))
  | succ m ih =>
    intro j hj hq
    have hbt := hB.2 (s + j) (by omega)
    have hb8 := bc_by8_b i hi j (by omega)
    refine bc_s_iload_n (k := 2) (i := 2) (x := (j : Int)) (by decide +kernel) rfl rfl ?_
    refine bc_s_aload_n (k := 1) (i := 1) (x := 1000 + i) (by decide +kernel) rfl rfl ?_
    refine len (by decide +kernel) (Nat.le_of_ble_eq_true rfl) ?_
    refine bc_s_icmp (k := .ge) (off := 32) (t := 65) (by decide +kernel) (by decide) ⟨by omega, by omega⟩ ⟨by omega, by omega⟩ (fun z => absurd z (by show ¬ (bc_slen.getD i 0 : Int) ≤ (j : Int); omega)) (fun _ => ?_)
    refine bc_s_aload_n (k := 0) (i := 0) (x := 3) (by decide +kernel) rfl rfl ?_
    refine bc_s_get (idx := 9) (ci := 3) (k := 0) (pos := 124) (nest := 0) (r := 3) (v := .inr (.inr 1)) (by decide +kernel) (by decide +kernel) rfl (Nat.le_of_ble_eq_true rfl) (fun ad => rfl) ?_
    refine bc_s_aload_n (k := 0) (i := 0) (x := 3) (by decide +kernel) rfl rfl ?_
    refine bc_s_get (idx := 80) (ci := 3) (k := 2) (pos := 126) (nest := 0) (r := 3) (v := .inl (s : Int)) (by decide +kernel) (by decide +kernel) rfl (Nat.le_of_ble_eq_true rfl) (fun ad => by rw [e2]; rfl) ?_
    refine bc_s_iload_n (k := 2) (i := 2) (x := (j : Int)) (by decide +kernel) rfl rfl ?_
    refine bc_s_iadd (by decide +kernel) ?_
    have esj : (s : Int) + (j : Int) = ((s + j : Nat) : Int) := by omega
    rw [esj]
    have okb : bc_OKr (d + 4) 52 [.inr (.inr 1), .inl ((s + j : Nat) : Int)] h (fun r x => r = some (.inl (T (s + j))) ∧ x = h) := by
      rw [← bc_OK_eq]
      exact c5_byteAt (d := d + 3) hT hB (by omega) ⟨rfl, rfl⟩
    refine bc_s_virtual (d := d + 4) (idx := 92) (mj := 52) (pos := 355) (nest := 1) (r := 1) (as := [.inl ((s + j : Nat) : Int)]) (st' := []) (by decide +kernel) bc_good38.2 (by decide +kernel) rfl (Nat.le_of_ble_eq_true rfl) rfl rfl rfl okb (fun r x hp => ?_)
    obtain ⟨hr, hx⟩ := hp
    rw [hr, hx]
    show bc_ATr (d + 4) 38 post 49 [some (.inr (.inr 3)), some (.inr (.inr (1000 + i))), some (.inl (j : Int))] [.inl (T (s + j))] h
    refine bc_s_aload_n (k := 1) (i := 1) (x := 1000 + i) (by decide +kernel) rfl rfl ?_
    refine bc_s_iload_n (k := 2) (i := 2) (x := (j : Int)) (by decide +kernel) rfl rfl ?_
    refine bc_s_vstr (d := d + 4) (mj := 140) (idx := 113) (pos := 391) (i := i) (as := [.inl (j : Int)]) (st' := [.inl (T (s + j))]) hi (by decide +kernel) bc_k140 (by decide +kernel) rfl rfl (Nat.le_of_ble_eq_true rfl) (c_schar (d := d) (post := fun r x => r = some (.inl (bc_by8 i j)) ∧ x = h) hi (by omega) ⟨rfl, rfl⟩) (fun r x hp => ?_)
    obtain ⟨hr, hx⟩ := hp
    rw [hr, hx]
    show bc_ATr (d + 4) 38 post 54 [some (.inr (.inr 3)), some (.inr (.inr (1000 + i))), some (.inl (j : Int))] [.inl (bc_by8 i j), .inl (T (s + j))] h
    refine bc_s_icmp (k := .eq) (off := 5) (t := 59) (by decide +kernel) (by decide) ⟨by omega, by omega⟩ ⟨by omega, by omega⟩ (fun z => ?_) (fun z => ?_)
    · have z' : T (s + j) = bc_by8 i j := z
      refine bc_s_iinc (i := 2) (n := 1) (x := (j : Int)) (by decide +kernel) rfl (Nat.le_of_ble_eq_true rfl) (fun q hq2 => ?_) ?_
      · have : q = 1 := by omega
        subst this; rfl
      · refine bc_s_goto (off := -34) (t := 28) (by decide +kernel) (by decide) ?_
        have e1 : (j : Int) + 1 = ((j + 1 : Nat) : Int) := by omega
        show bc_ATr (d + 4) 38 post 28 [some (.inr (.inr 3)), some (.inr (.inr (1000 + i))), some (.inl ((j : Int) + 1))] [] h
        rw [e1]
        refine ih (j + 1) (by omega) (fun q hq2 => ?_)
        by_cases e : q = j
        · subst e; exact z'
        · exact hq q (by omega)
    · have z' : ¬ T (s + j) = bc_by8 i j := z
      refine bc_s_iconst (n := 0) (by decide +kernel) ?_
      exact bc_s_ireturn (by decide +kernel) (Or.inr ⟨rfl, Or.inl rfl⟩) (k0 (fun y => z' (y j (by omega))))
/-- the word's letters as the pure test has them -/
theorem pd_wt_by {i s : Nat} (hi : i < 3) : pd_wt i T s = true ↔ ∀ j, j < bc_slen.getD i 0 → T (s + j) = bc_by8 i j := by
  have e : i = 0 ∨ i = 1 ∨ i = 2 := by omega
  rcases e with rfl | rfl | rfl
  · have b : bc_by8 0 0 = 109 ∧ bc_by8 0 1 = 105 ∧ bc_by8 0 2 = 100 := by decide +kernel
    simp only [pd_wt, if_true, decide_eq_true_eq]
    constructor
    · intro q j hj
      have e : j = 0 ∨ j = 1 ∨ j = 2 := by
        have : bc_slen.getD 0 0 = 3 := rfl
        omega
      rcases e with rfl | rfl | rfl
      · rw [b.1]; exact q.1
      · rw [b.2.1]; exact q.2.1
      · rw [b.2.2]; exact q.2.2
    · intro q
      have q0 := q 0 (by decide)
      have q1 := q 1 (by decide)
      have q2 := q 2 (by decide)
      rw [b.1] at q0; rw [b.2.1] at q1; rw [b.2.2] at q2
      exact ⟨q0, q1, q2⟩
  · have b : bc_by8 1 0 = 98 ∧ bc_by8 1 1 = 117 ∧ bc_by8 1 2 = 121 := by decide +kernel
    simp only [pd_wt, if_neg (show ¬ (1 : Nat) = 0 by decide), if_true, decide_eq_true_eq]
    constructor
    · intro q j hj
      have e : j = 0 ∨ j = 1 ∨ j = 2 := by
        have : bc_slen.getD 1 0 = 3 := rfl
        omega
      rcases e with rfl | rfl | rfl
      · rw [b.1]; exact q.1
      · rw [b.2.1]; exact q.2.1
      · rw [b.2.2]; exact q.2.2
    · intro q
      have q0 := q 0 (by decide)
      have q1 := q 1 (by decide)
      have q2 := q 2 (by decide)
      rw [b.1] at q0; rw [b.2.1] at q1; rw [b.2.2] at q2
      exact ⟨q0, q1, q2⟩
  · have b : bc_by8 2 0 = 115 ∧ bc_by8 2 1 = 101 ∧ bc_by8 2 2 = 108 ∧ bc_by8 2 3 = 108 := by decide +kernel
    simp only [pd_wt, if_neg (show ¬ (2 : Nat) = 0 by decide), if_neg (show ¬ (2 : Nat) = 1 by decide), decide_eq_true_eq]
    constructor
    · intro q j hj
      have e : j = 0 ∨ j = 1 ∨ j = 2 ∨ j = 3 := by
        have : bc_slen.getD 2 0 = 4 := rfl
        omega
      rcases e with rfl | rfl | rfl | rfl
      · rw [b.1]; exact q.1
      · rw [b.2.1]; exact q.2.1
      · rw [b.2.2.1]; exact q.2.2.1
      · rw [b.2.2.2]; exact q.2.2.2
    · intro q
      have q0 := q 0 (by decide)
      have q1 := q 1 (by decide)
      have q2 := q 2 (by decide)
      have q3 := q 3 (by decide)
      rw [b.1] at q0; rw [b.2.1] at q1; rw [b.2.2.1] at q2; rw [b.2.2.2] at q3
      exact ⟨q0, q1, q2, q3⟩
theorem bc_okA3 {d mi : Nat} {post : Option bc_AV → bc_AH → Prop} {args : List bc_AV} {loc : List (Option bc_AV)} {h : bc_AH} (hpl : plainName (bc_y mi).cls = true) (hc : ∀ v ∈ args, bc_cat v = 1) (hn : args.length ≤ bc_mL mi) (hloc : ∀ (i : Nat) (v : bc_AV), loc[i]? = some (some v) → args[i]? = some v) (hat : bc_ATr d mi post 0 loc [] h) : bc_OKr (d + 1) mi args h post := by
  intro l Z sz
  refine bc_okV hpl (fun v hv => ?_) (by simpa using hn) (fun i v hi => ?_) hat
  · obtain ⟨a, ha, rfl⟩ := List.mem_map.mp hv
    rw [bc_cv_cat]; exact hc a ha
  · rw [List.getElem?_map, hloc i v hi]; rfl
theorem pd_wln_s : ∀ i, i < 3 → bc_slen.getD i 0 = pd_wln i := by decide +kernel
theorem pd_SP5 (d : Nat) (T : Nat → Int) (n : Nat) (h : bc_AH) (post : Option bc_AV → bc_AH → Prop) (p i r : Nat) (hi : i < 3) (hr : r = 1000 + i) (hB : pd_TB T n) (hT : pd_TC T (n : Int) h) (hp : p ≤ 440) (e1 : h 3 1 = (pd_te T n p : Int)) (e2 : h 3 2 = (pd_ts T n p : Int)) (e3 : h 3 3 = pd_tc T n p) (k1 : pd_w i T n p = true → post (some (.inl 1)) h) (k0 : ¬ pd_w i T n p = true → post (some (.inl 0)) h) : bc_OK (d + 6) 38 [.inr (.inr 3), .inr (.inr r)] h post := by
  subst hr
  rw [bc_OK_eq]
  have h440 := hB.1
  have tcr := pd_tc_r (T := T) (n := n) (p := p)
  have wl := pd_wln_s i hi
  have hl4 : bc_slen.getD i 0 ≤ 4 := by
    have : ∀ i, i < 3 → bc_slen.getD i 0 ≤ 4 := by decide +kernel
    exact this i hi
  unfold pd_w at k1 k0
  refine bc_okA3 (d := d + 5) (loc := [some (.inr (.inr 3)), some (.inr (.inr (1000 + i))), none]) (by decide +kernel) (fun v hv => ?_) (Nat.le_of_ble_eq_true rfl) (fun j v hv => ?_) ?_
  · rcases List.mem_cons.mp hv with e | hv
    · rw [e]; rfl
    · rcases List.mem_cons.mp hv with e | hv
      · rw [e]; rfl
      · cases hv
  · match j, hv with
    | 0, hv => simpa using hv
    | 1, hv => simpa using hv
    | 2, hv => simp at hv
    | j + 3, hv => simp at hv
  · have no : ¬ (pd_tc T n p = 3 ∧ pd_te T n p = pd_ts T n p + pd_wln i) → bc_ATr (d + 5) 38 post 24 [some (.inr (.inr 3)), some (.inr (.inr (1000 + i))), none] [] h := fun z => by
      refine bc_s_iconst (n := 0) (by decide +kernel) ?_
      refine bc_s_ireturn (by decide +kernel) (Or.inr ⟨rfl, Or.inl rfl⟩) (k0 (fun y => ?_))
      rw [decide_eq_false z] at y
      exact absurd y (by simp)
    refine bc_s_aload_n (k := 0) (i := 0) (x := 3) (by decide +kernel) rfl rfl ?_
    refine bc_s_get (idx := 30) (ci := 3) (k := 3) (pos := 127) (nest := 0) (r := 3) (v := .inl (pd_tc T n p)) (by decide +kernel) (by decide +kernel) rfl (Nat.le_of_ble_eq_true rfl) (fun ad => by rw [e3]; rfl) ?_
    refine bc_s_iconst (n := 3) (by decide +kernel) ?_
    refine bc_s_icmp (k := .ne) (off := 19) (t := 24) (by decide +kernel) (by decide) ⟨by omega, by omega⟩ ⟨by omega, by omega⟩ (fun z => no (fun y => z y.1)) (fun z => ?_)
    have c3 : pd_tc T n p = 3 := Classical.not_not.mp z
    have te := pd_te_le (T := T) (n := n) (p := p) (by omega)
    have hb4 : pd_bnd n ≤ 400 := by unfold pd_bnd; omega
    refine bc_s_aload_n (k := 0) (i := 0) (x := 3) (by decide +kernel) rfl rfl ?_
    refine bc_s_get (idx := 20) (ci := 3) (k := 1) (pos := 125) (nest := 0) (r := 3) (v := .inl (pd_te T n p : Int)) (by decide +kernel) (by decide +kernel) rfl (Nat.le_of_ble_eq_true rfl) (fun ad => by rw [e1]; rfl) ?_
    refine bc_s_aload_n (k := 0) (i := 0) (x := 3) (by decide +kernel) rfl rfl ?_
    refine bc_s_get (idx := 80) (ci := 3) (k := 2) (pos := 126) (nest := 0) (r := 3) (v := .inl (pd_ts T n p : Int)) (by decide +kernel) (by decide +kernel) rfl (Nat.le_of_ble_eq_true rfl) (fun ad => by rw [e2]; rfl) ?_
    refine bc_s_isub (by decide +kernel) ?_
    refine bc_s_aload_n (k := 1) (i := 1) (x := 1000 + i) (by decide +kernel) rfl rfl ?_
    refine bc_s_vstr (d := d + 5) (mj := 139) (idx := 108) (pos := 381) (i := i) (as := []) (st' := [.inl ((pd_te T n p : Int) - (pd_ts T n p : Int))]) hi (by decide +kernel) bc_k139 (by decide +kernel) rfl rfl (Nat.le_of_ble_eq_true rfl) (c_slen (d := d + 3) (post := fun r x => r = some (.inl (bc_slen.getD i 0 : Int)) ∧ x = h) hi ⟨rfl, rfl⟩) (fun r x hp2 => ?_)
    obtain ⟨hr, hx⟩ := hp2
    rw [hr, hx]
    show bc_ATr (d + 5) 38 post 21 _ [.inl (bc_slen.getD i 0 : Int), .inl ((pd_te T n p : Int) - (pd_ts T n p : Int))] h
    refine bc_s_icmp (k := .eq) (off := 5) (t := 26) (by decide +kernel) (by decide) ⟨by omega, by omega⟩ ⟨by omega, by omega⟩ (fun y => ?_) (fun y => no (fun w => y (show (pd_te T n p : Int) - (pd_ts T n p : Int) = (bc_slen.getD i 0 : Int) by omega)))
    have y' : (pd_te T n p : Int) - (pd_ts T n p : Int) = (bc_slen.getD i 0 : Int) := y
    have ok : pd_tc T n p = 3 ∧ pd_te T n p = pd_ts T n p + pd_wln i := ⟨c3, by omega⟩
    rw [decide_eq_true ok, Bool.true_and] at k1 k0
    rw [pd_wt_by hi] at k1 k0
    refine bc_s_iconst (n := 0) (by decide +kernel) ?_
    refine bc_s_istore_n (k := 2) (i := 2) (x := 0) (by decide +kernel) rfl (Nat.le_of_ble_eq_true rfl) (fun q hq2 => ?_) ?_
    · have : q = 1 := by omega
      subst this; rfl
    · exact l3_sp_28 (d := d + 1) hB hT hi e2 (by omega) k1 k0 (bc_slen.getD i 0) 0 (by omega) (fun q hq2 => by omega)
theorem pd_SP_ok : pd_SP := pd_SP5
theorem p6_textX {D : Nat → Int} {m F : Int} {Hs : List (Nat → Int)} (hm : m = (n : Int)) (hR : pd_RC T m F D Hs h) (hS : pd_SV T m F D Hs) (kk : ∀ h', pd_RC T 0 (pd_txF T n) (pd_txD T n D) (pd_txH T n Hs) h' → pd_gC h h' → post (some (.inl (pd_txV T n))) h') : bc_OK (d + 9) 56 [.inr (.inr 0)] h post :=
  p6_text pd_SP_ok hm hR hS kk
end Spells
