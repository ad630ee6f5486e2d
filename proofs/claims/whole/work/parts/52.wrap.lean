/-! chosen, were, worth, reach over the state -/
def pd_chosen (D : Nat → Int) (mid w : Int) : Int := if (0 ≤ mid ∧ mid ≤ 999) ∧ 0 ≤ w ∧ w ≤ 1 then (if w = 0 then (pd_pk D (pd_l0 D) (fun _ => false) mid (-1)).1 else (pd_pk D (pd_l0 D) (fun _ => false) mid (-1)).2) else -1
def pd_were (D : Nat → Int) (o s : Int) : Int := if (0 ≤ o ∧ pd_ob D o.toNat = true) ∧ 1 ≤ s ∧ s ≤ pd_sz D o.toNat then (pd_pk D (pd_lo D o s) (fun _ => false) (D 1) (-1)).1 else -1
def pd_worth (D : Nat → Int) (o : Int) : Int := if 0 ≤ o ∧ pd_ob D o.toNat = true then (pd_pk D (pd_l0 D) (fun _ => false) (D 1) (-1)).1 - (pd_pk D (pd_l0 D) (fun _ => false) (D 1) o).1 else -1
/-- a call of the class leaves the reference's cells, a call of the reference all others -/
def pd_gC (h h' : bc_AH) : Prop := ∀ c : Nat, 104 ≤ c → h' c = h c
def pd_gM (h h' : bc_AH) : Prop := ∀ c : Nat, c < 104 ∨ 116 < c → h' c = h c
section Wrap
variable {d : Nat} {h : bc_AH} {post : Option bc_AV → bc_AH → Prop} {T D : Nat → Int} {n F : Int} {Hs : List (Nat → Int)}
theorem pd_RC_c {h' : bc_AH} (hR : pd_RC T n F D Hs h) (x : pd_fr 22 28 h h') (e : h' 22 5 = -1) : pd_RC T n F D Hs h' := pd_RC_fr hR (fun c _ b => x c (by omega)) e
theorem pd_gC_c {h' : bc_AH} (x : pd_fr 22 28 h h') : pd_gC h h' := fun c b => x c (by omega)
theorem pd_gM_c {h' : bc_AH} (x : ∀ c : Nat, c ≠ 104 → (c < 109 ∨ 115 < c) → h' c = h c) : pd_gM h h' := fun c b => x c (by omega) (by omega)
theorem pd_RM_c {h' : bc_AH} (hR : pd_RM T n F D Hs h) (x : ∀ j : Nat, j ≠ 0 → j ≠ 16 → j ≠ 23 → j ≠ 24 → j ≠ 25 → j ≠ 26 → h' 104 j = h 104 j) (y : ∀ c : Nat, c ≠ 104 → (c < 109 ∨ 115 < c) → h' c = h c) : pd_RM T n F D Hs h' := pd_RM_fr hR x (fun c a b => y c a (by omega))
theorem p6_chosen (hR : pd_RC T n F D Hs h) (hS : pd_SV T n F D Hs) {mid w : Int} (hm : bc_vr mid) (hw : bc_vr w) (kk : ∀ h', pd_RC T n F D Hs h' → pd_gC h h' → post (some (.inl (pd_chosen D mid w))) h') : bc_OK (d + 17) 61 [.inr (.inr 0), .inl mid, .inl w] h post :=
  c6_chosen hR.2.2.1 hS.2.2.1 hR.2.2.2.1 hm hw (fun h' x e => kk h' (pd_RC_c hR x e) (pd_gC_c x))
theorem p7_chosen (hR : pd_RM T n F D Hs h) (hS : pd_SV T n F D Hs) {mid w : Int} (hm : bc_vr mid) (hw : bc_vr w) (kk : ∀ h', pd_RM T n F D Hs h' → pd_gM h h' → post (some (.inl (pd_chosen D mid w))) h') : bc_OK (d + 6) 116 [.inr (.inr 104), .inl mid, .inl w] h post :=
  c7_chosen hR.2.2.1 hS.2.2.1 hm hw (fun h' x y => kk h' (pd_RM_c hR x y) (pd_gM_c y))
theorem p6_were (hR : pd_RC T n F D Hs h) (hS : pd_SV T n F D Hs) {o s : Int} (ho : bc_vr o) (hs : bc_vr s) (kk : ∀ h', pd_RC T n F D Hs h' → pd_gC h h' → post (some (.inl (pd_were D o s))) h') : bc_OK (d + 18) 66 [.inr (.inr 0), .inl o, .inl s] h post :=
  c6_were hR.2.2.1 hS.2.2.1 hR.2.2.2.1 ho hs (fun h' x e => kk h' (pd_RC_c hR x e) (pd_gC_c x))
theorem p7_were (hR : pd_RM T n F D Hs h) (hS : pd_SV T n F D Hs) {o s : Int} (ho : bc_vr o) (hs : bc_vr s) (kk : ∀ h', pd_RM T n F D Hs h' → pd_gM h h' → post (some (.inl (pd_were D o s))) h') : bc_OK (d + 6) 124 [.inr (.inr 104), .inl o, .inl s] h post :=
  c7_were hR.2.2.1 hS.2.2.1 ho hs (fun h' x y => kk h' (pd_RM_c hR x y) (pd_gM_c y))
theorem p6_worth (hR : pd_RC T n F D Hs h) (hS : pd_SV T n F D Hs) {o : Int} (ho : bc_vr o) (kk : ∀ h', pd_RC T n F D Hs h' → pd_gC h h' → post (some (.inl (pd_worth D o))) h') : bc_OK (d + 17) 67 [.inr (.inr 0), .inl o] h post :=
  c6_worth hR.2.2.1 hS.2.2.1 hR.2.2.2.1 ho (fun h' x e => kk h' (pd_RC_c hR x e) (pd_gC_c x))
theorem p7_worth (hR : pd_RM T n F D Hs h) (hS : pd_SV T n F D Hs) {o : Int} (ho : bc_vr o) (kk : ∀ h', pd_RM T n F D Hs h' → pd_gM h h' → post (some (.inl (pd_worth D o))) h') : bc_OK (d + 7) 125 [.inr (.inr 104), .inl o] h post :=
  c7_worth hR.2.2.1 hS.2.2.1 ho (fun h' x y => kk h' (pd_RM_c hR x y) (pd_gM_c y))
theorem p6_reach (hR : pd_RC T n F D Hs h) (hS : pd_SV T n F D Hs) {o : Int} (ho : bc_vr o) (kk : ∀ h', pd_RC T n F D Hs h' → pd_gC h h' → post (some (.inl (pd_reach D o))) h') : bc_OK (d + 19) 68 [.inr (.inr 0), .inl o] h post :=
  c6_reach hR.2.2.1 hS.2.2.1 hR.2.2.2.1 ho (fun h' x e => kk h' (pd_RC_c hR x e) (pd_gC_c x))
theorem p7_reach (hR : pd_RM T n F D Hs h) (hS : pd_SV T n F D Hs) {o : Int} (ho : bc_vr o) (kk : ∀ h', pd_RM T n F D Hs h' → pd_gM h h' → post (some (.inl (pd_reach D o))) h') : bc_OK (d + 6) 126 [.inr (.inr 104), .inl o] h post :=
  c7_reach hR.2.2.1 hS.2.2.1 ho (fun h' x y => kk h' (pd_RM_c hR x y) (pd_gM_c y))
end Wrap
