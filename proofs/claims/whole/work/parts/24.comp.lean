/-! ===== the pieces of code, one behind another ===== -/
/-- the code of node m stands at a, a return behind it, all before z -/
def cp_P (K e oc nd tg : Nat → Nat) (t : so_S) (z m a : Nat) : Prop := ∃ d x, la_c K e t.1 (cm_sk e t) oc nd tg d m a x ∧ x < z ∧ oc x = 9 ∧ nd x = m
/-- what holds of every cell -/
def cp_c (K N oc nd tg : Nat → Nat) (n z c : Nat) : Prop := nd c < n ∧ oc c ≤ 9 ∧ (oc c ≠ 9 → c + 1 < z ∧ N (nd (c + 1)) = N (nd c)) ∧ (oc c = 4 ∨ oc c = 5 → tg c < z ∧ N (nd (tg c)) = N (nd c)) ∧ (oc c = 6 → K (nd c) = 3)
/-- l lambdas are done -/
def cp_I (K e N oc nd tg en : Nat → Nat) (t : so_S) (n l z : Nat) : Prop :=
  cp_P K e oc nd tg t z 0 0 ∧ (∀ p, p < n → K p = 2 → tr_lc K p < l → t.1 (p + 1) = 1 → cp_P K e oc nd tg t z (p + 1) (en (tr_lc K p))) ∧ (∀ c, c < z → cp_c K N oc nd tg n z c)
section
variable {K e N oc nd tg en oc' nd' tg' : Nat → Nat} {t : so_S} {n l z z' : Nat}
theorem cp_P_up {m a : Nat} (h : cp_P K e oc nd tg t z m a) (g : em_ag z oc nd tg oc' nd' tg') (hz : z ≤ z') : cp_P K e oc' nd' tg' t z' m a := by
  obtain ⟨d, x, h1, h2, h3, h4⟩ := h
  obtain ⟨g1, g2, _⟩ := g x h2
  exact ⟨d, x, la_keep 0 z (fun j _ hj => ⟨(g j hj).1, (g j hj).2.1, fun _ => (g j hj).2.2⟩) d m a x (Nat.zero_le _) (by omega) h1, by omega, by rw [g1]; exact h3, by rw [g2]; exact h4⟩
theorem cp_c_up (h : ∀ c, c < z → cp_c K N oc nd tg n z c) (g : em_ag z oc nd tg oc' nd' tg') (hz : z ≤ z') : ∀ c, c < z → cp_c K N oc' nd' tg' n z' c := by
  intro c hc
  obtain ⟨h1, h2, h3, h4, h5⟩ := h c hc
  obtain ⟨g1, g2, g3⟩ := g c hc
  refine ⟨by rw [g2]; exact h1, by rw [g1]; exact h2, fun w => ?_, fun w => ?_, fun w => ?_⟩
  · rw [g1] at w
    obtain ⟨a, b⟩ := h3 w
    rw [g2, (g (c + 1) a).2.1]
    exact ⟨by omega, b⟩
  · rw [g1] at w
    obtain ⟨a, b⟩ := h4 w
    rw [g3, g2, (g _ a).2.1]
    exact ⟨by omega, b⟩
  · rw [g1] at w
    rw [g2]
    exact h5 w
/-- a piece and its return -/
theorem cp_new {d m a x : Nat} (T : tr_T K e n) (C : tr_C K e N n) (hK : ∀ m, m < n → K m ≤ 6) (hm : m < n) (h : la_c K e t.1 (cm_sk e t) oc nd tg d m a x) : cp_P K e (tr_put oc x 9) (tr_put nd x m) tg t (x + 1) m a ∧ ∀ c, a ≤ c → c < x + 1 → cp_c K N (tr_put oc x 9) (tr_put nd x m) tg n (x + 1) c := by
  have hl := la_lt _ _ _ _ h
  have h' : la_c K e t.1 (cm_sk e t) (tr_put oc x 9) (tr_put nd x m) tg d m a x := la_keep 0 x (fun j _ hj => ⟨tr_put_n _ _ (by omega), tr_put_n _ _ (by omega), fun _ => rfl⟩) d m a x (Nat.zero_le _) (Nat.le_refl _) h
  have hN := la_N T C cm_sk_in hK d m a x hm h
  have nn : ∀ c, a ≤ c → c < x + 1 → N (tr_put nd x m c) = N m := fun c h1 h2 => by
    by_cases e : c = x
    · subst e; rw [tr_put_s]
    · rw [tr_put_n _ _ e]; exact (hN c h1 (by omega)).2.1
  refine ⟨⟨d, x, h', by omega, tr_put_s _ _ _, tr_put_s _ _ _⟩, fun c h1 h2 => ?_⟩
  by_cases e : c = x
  · subst e
    unfold cp_c
    rw [tr_put_s, tr_put_s]
    exact ⟨hm, Nat.le_refl _, fun w => absurd rfl w, fun w => by omega, fun w => by omega⟩
  · have hc : c < x := by omega
    obtain ⟨r1, r2, r3, r4, r5⟩ := hN c h1 hc
    refine ⟨?_, ?_, fun _ => ⟨by omega, ?_⟩, fun w => ?_, fun w => ?_⟩
    · rw [tr_put_n _ _ e]; exact r1
    · rw [tr_put_n _ _ e]; omega
    · rw [nn c h1 h2, nn (c + 1) (by omega) (by omega)]
    · rw [tr_put_n _ _ e] at w
      have := r4 w
      exact ⟨by omega, by rw [nn c h1 h2, nn (tg c) (by omega) (by omega)]⟩
    · rw [tr_put_n _ _ e] at w ⊢
      exact r5 w
/-- the links of known calls change nothing but targets of known calls -/
theorem cp_link (I : cp_I K e N oc nd tg en t n l z) (h : ∀ j, j < z → oc j ≠ 6 → tg' j = tg j) : cp_I K e N oc nd tg' en t n l z := by
  have kp : ∀ m a, cp_P K e oc nd tg t z m a → cp_P K e oc nd tg' t z m a := fun m a ⟨d, x, h1, h2, h3, h4⟩ =>
    ⟨d, x, la_keep 0 z (fun j _ hj => ⟨rfl, rfl, fun w => h j hj w⟩) d m a x (Nat.zero_le _) (by omega) h1, h2, h3, h4⟩
  refine ⟨kp _ _ I.1, fun p hp k hl ht => kp _ _ (I.2.1 p hp k hl ht), fun c hc => ?_⟩
  obtain ⟨h1, h2, h3, h4, h5⟩ := I.2.2 c hc
  refine ⟨h1, h2, h3, fun w => ?_, h5⟩
  rw [h c hc (by omega)]
  exact h4 w
theorem cp_G {L : Nat} (I : cp_I K e N oc nd tg en t n L z) (hL : ∀ p, p < n → K p = 2 → tr_lc K p < L) (hk : ∀ x, x < z → oc x = 6 → ∀ l, l < L → t.2.1 (nd x + 1) = 2 ^ l → tg x = en l) {bd : Nat → Nat} : cm_G K e (tr_lc K) bd oc nd tg en L n z t := by
  refine ⟨fun p hp k ht => ?_, hk⟩
  obtain ⟨d, x, h1, h2, h3, _⟩ := I.2.1 p hp k (hL p hp k) ht
  exact ⟨d, x, h1, h2, h3⟩
end
