/-! ===== arrays that hold naturals ===== -/
def rn_F (g : Nat → Nat) : Nat → Int32 := fun j => nI (g j)
theorem rn_put (g : Nat → Nat) (k x : Nat) : upd (rn_F g) k (nI x) = rn_F (tr_put g k x) := by
  funext j
  show (if j = k then nI x else nI (g j)) = nI (if j = k then x else g j)
  by_cases z : j = k
  · rw [if_pos z, if_pos z]
  · rw [if_neg z, if_neg z]
theorem rn_0 : (fun _ => 0 : Nat → Int32) = rn_F (fun _ => 0) := rfl
/-- how the reference keeps the tables of a run -/
def yr_P (E : Nat) (old : Nat → Int32) (T : yw_S) (ca co : Int32) (dn fn vl et bi cs : Nat → Int32) : Prop :=
  ca = nI T.1 ∧ co = nI T.2.1 ∧ dn = rn_F (yw_dn T) ∧ fn = yw_fn T ∧ vl = yw_vl T ∧ et = rn_F (yw_et T) ∧ bi = rn_F (yw_bi T) ∧ cs = re_cs E old (yw_cs T)
section
variable {E : Nat} {old : Nat → Int32} {T : yw_S} {ca co : Int32} {dn fn vl et bi cs : Nat → Int32}
theorem yr_fin (h : yr_P E old T ca co dn fn vl et bi cs) (q : Nat) (x y : Int32) : yr_P E old (yw_fin q x y T) ca co (upd dn q (nI 1)) (upd fn q x) (upd vl q y) et bi cs := by
  obtain ⟨h1, h2, h3, h4, h5, h6, h7, h8⟩ := h
  subst h3 h4 h5
  exact ⟨h1, h2, rn_put _ _ _, rfl, rfl, h6, h7, h8⟩
theorem yr_inc (h : yr_P E old T ca co dn fn vl et bi cs) {co' : Int32} (e : co' = nI (T.2.1 + 1)) : yr_P E old (yw_inc T) ca co' dn fn vl et bi cs := by
  obtain ⟨h1, h2, h3, h4, h5, h6, h7, h8⟩ := h
  exact ⟨h1, e, h3, h4, h5, h6, h7, h8⟩
end
/-! ===== the start of a run ===== -/
def ev_s0 : ev_S := (0, 0, (fun _ => 0), (fun _ _ => .inl 0), (fun _ => 0))
def ev_e0' : Nat → ev_V := fun _ => .inl 0
theorem ev_pre0 {K e N : Nat → Nat} {n cl cm : Nat} (hn : 0 < n) (he : e 0 = n) (h48 : n ≤ 48) (hcl : cl ≤ 48) (hN : N 0 = 0) : ev_Pre K e N n cl cm 2400 ev_e0' 0 ev_s0 := by
  refine ⟨hn, ?_, ⟨Nat.zero_le _, Nat.zero_le _, fun k hk => absurd hk (Nat.not_lt_zero k)⟩, fun i hi => ?_⟩
  · show 48 * (cl - 0) + (e 0 - 0) ≤ 2400
    omega
  · rw [hN] at hi
    exact absurd hi (Nat.not_lt_zero i)
theorem so_sp0 {K N lc : Nat → Nat} {sc : Nat → Nat → Bool} {n : Nat} {t : so_S} (h0 : ∀ l, sc 0 l = false) (ht : t.1 0 = 1) : so_SP K N lc sc n t 0 ev_e0' ev_s0 := by
  refine ⟨fun k hk => absurd hk (Nat.not_lt_zero k), fun b hb kb z => ?_, ht⟩
  rw [h0] at z
  cases z
