/-! volume over the state -/
section Vol
variable {d : Nat} {h : bc_AH} {post : Option bc_AV → bc_AH → Prop} {T D : Nat → Int} {n F : Int} {Hs : List (Nat → Int)}
theorem pd_vs_vr (hW : pd_W D) (s : Int) : bc_vr (pd_vs D s) := by
  have v0 := hW.1.1
  have hlen := pd_bl_len (p := bc_bit s) (D 0).toNat
  have g : -1 ≤ pd_vs D s ∧ pd_vs D s ≤ 600000 := pd_VM_bd (D := D) (lo := pd_lst D) (hi := pd_sz D) (T := pd_bl (bc_bit s) (D 0).toNat) (U := pd_bl (bc_bit s) (D 0).toNat) (fun x hx => by
    have hx0 := ((pd_bl_mem _).mp hx).1
    exact (hW.1.2.2 x (by omega)).2.1) (by omega)
  unfold bc_vr
  omega
theorem p6_volume (hR : pd_RC T n F D Hs h) (hS : pd_SV T n F D Hs) {s : Int} (kk : ∀ h', pd_RC T n F D Hs h' → (∀ c : Nat, c < 22 ∨ 28 < c → h' c = h c) → post (some (.inl (pd_volume D s))) h') : bc_OK (d + 6) 64 [.inr (.inr 0), .inl s] h post :=
  c6_volume hR.2.2.1 hS.2.2.1 hR.2.2.2.1 (pd_vs_vr hS.2.2.1 s) (fun h' x => kk h' (pd_RC_fr hR (fun c _ b => x c (by omega)) (by rw [x 22 (by omega)]; exact hR.2.2.2.1)) (fun c b => x c (by omega)))
theorem p7_volume (hR : pd_RM T n F D Hs h) (hS : pd_SV T n F D Hs) {s : Int} (hs : bc_vr s) (kk : ∀ h', pd_RM T n F D Hs h' → (∀ c : Nat, c < 104 ∨ 116 < c → h' c = h c) → post (some (.inl (pd_volume D s))) h') : bc_OK (d + 5) 122 [.inr (.inr 104), .inl s] h post :=
  c7_volume hR.2.2.1 hS.2.2.1 hs (fun h' x y => kk h' (pd_RM_fr hR (fun j a _ b c _ _ => x j a b c) (fun c a b => y c a (by omega))) (fun c b => y c (by omega) (by omega)))
end Vol
