/-! ===== the reference: walks over the term ===== -/
section
variable {g_cellLimit g_callLimit g_closureLimit g_nodes g_holes g_reached : Int32} {b_kinds b_operands b_parents b_s b_p b_rec b_sets b_live b_done b_fn b_val b_entered b_bind : Nat → Int32}
variable {cs n h L : Nat} {K P N Lv S O B : Nat → Nat}
theorem yy_has {post : Int32 → Prop} {x : Int32} (hn : n ≤ 48) (h0 : (x < 0 ∨ nI n ≤ x) → post 0) (h1 : ∀ j, j < n → x = nI j → post 1) : wpY_has post (g_cellLimit, g_callLimit, g_closureLimit, (nI n), g_holes, g_reached, b_kinds, b_operands, b_parents, b_s, b_p, b_rec, b_sets, b_live, b_done, b_fn, b_val, b_entered, b_bind) x := by
  refine br_c (fun z => h0 (Or.inl z)) (fun z => br_c (fun y => h0 (Or.inr y)) (fun y => ?_))
  rcases pk_ix x (n := n) (by omega) with w | w | ⟨j, w1, w2⟩
  · exact absurd w z
  · exact absurd w y
  · exact h1 j w1 w2
theorem yy_arity {post : Int32 → Prop} {k : Nat} (hk : k ≤ 6) (h : post (nI (tr_ar k))) : wpY_arity post (g_cellLimit, g_callLimit, g_closureLimit, g_nodes, g_holes, g_reached, b_kinds, b_operands, b_parents, b_s, b_p, b_rec, b_sets, b_live, b_done, b_fn, b_val, b_entered, b_bind) (nI k) := by
  have hc : k = 0 ∨ k = 1 ∨ k = 2 ∨ k = 3 ∨ k = 4 ∨ k = 5 ∨ k = 6 := by omega
  rcases hc with rfl | rfl | rfl | rfl | rfl | rfl | rfl
  · exact br_f (by decide) (br_f (by decide) (br_t (by decide) h))
  · exact br_f (by decide) (br_f (by decide) (br_t (by decide) h))
  · exact br_t (by decide) h
  · exact br_f (by decide) (br_f (by decide) (br_f (by decide) h))
  · exact br_f (by decide) (br_f (by decide) (br_f (by decide) h))
  · exact br_f (by decide) (br_f (by decide) (br_f (by decide) h))
  · exact br_f (by decide) (br_t (by decide) h)
theorem yy_child_l {post : Int32 → Prop} {p k : Nat} (hn : n ≤ 48) (hk : k < 3) (hpa : ∀ m, 0 < m → m < n → b_parents m = nI (P m)) (Ok : tr_Ok K P n) (hp : p < n) (h1 : ∀ c, 0 < c → c < n → P c = p → tr_cnt P p c = k → post (nI c)) (h2 : tr_cnt P p n ≤ k → post (-1)) : ∀ d c m, c + d = n → d < m → p < c → tr_cnt P p c ≤ k → wY_child_7 post (nI p) (nI k) g_cellLimit g_callLimit g_closureLimit (nI n) g_holes g_reached b_kinds b_operands b_parents b_s b_p b_rec b_sets b_live b_done b_fn b_val b_entered b_bind m (nI (tr_cnt P p c)) (nI c) := by
  intro d
  induction d with
  | zero =>
    intro c m hc hm h0 hle
    obtain ⟨m, rfl⟩ : ∃ m', m = m' + 1 := ⟨m - 1, by omega⟩
    have e : c = n := by omega
    subst e
    exact br_t (nI_le (Nat.le_refl _) (by omega)) (h2 hle)
  | succ d ih =>
    intro c m hc hm h0 hle
    obtain ⟨m, rfl⟩ : ∃ m', m = m' + 1 := ⟨m - 1, by omega⟩
    refine br_f (nI_ge (by omega) (by omega)) ⟨vp_in_nI (by omega) (by omega), ?_⟩
    have hP := (Ok c (by omega) (by omega)).1
    rw [nI_clamp (by omega), hpa c (by omega) (by omega)]
    by_cases z : P c = p
    · rw [z]
      refine br_t rfl (nm_r (nI_1 _) ?_)
      by_cases y : tr_cnt P p c = k
      · rw [y]
        exact br_t rfl (h1 c (by omega) (by omega) z y)
      · refine br_f (fun w => y ((nI_eq (by omega) (by omega)).mp w)) (nm_r (nI_1 c) ?_)
        have e := tr_cnt_s (P := P) (show 0 < c by omega) z
        rw [← e]
        exact ih (c + 1) m (by omega) (by omega) (by omega) (by omega)
    · refine br_f (fun w => z ((nI_eq (by omega) (by omega)).mp w)) (nm_r (nI_1 c) ?_)
      have e := tr_cnt_n (P := P) (p := p) (m := c) (fun w => z w.2)
      rw [← e]
      exact ih (c + 1) m (by omega) (by omega) (by omega) (by omega)
theorem yy_child {post : Int32 → Prop} {p k : Nat} (hn : n ≤ 48) (hk : k < 3) (hpa : ∀ m, 0 < m → m < n → b_parents m = nI (P m)) (Ok : tr_Ok K P n) (hp : p < n) (h1 : ∀ c, 0 < c → c < n → P c = p → tr_cnt P p c = k → post (nI c)) (h2 : tr_cnt P p n ≤ k → post (-1)) : wpY_child post (g_cellLimit, g_callLimit, g_closureLimit, (nI n), g_holes, g_reached, b_kinds, b_operands, b_parents, b_s, b_p, b_rec, b_sets, b_live, b_done, b_fn, b_val, b_entered, b_bind) (nI p) (nI k) := by
  refine nm_r (nI_1 p) ⟨n + 1, ?_⟩
  have e := tr_cnt_0 (p := p) Ok (p + 1) (by omega) (Nat.le_refl _)
  have := yy_child_l (post := post) (g_cellLimit := g_cellLimit) (g_callLimit := g_callLimit) (g_closureLimit := g_closureLimit) (g_holes := g_holes) (g_reached := g_reached) (b_kinds := b_kinds) (b_operands := b_operands) (b_s := b_s) (b_p := b_p) (b_rec := b_rec) (b_sets := b_sets) (b_live := b_live) (b_done := b_done) (b_fn := b_fn) (b_val := b_val) (b_entered := b_entered) (b_bind := b_bind) hn hk hpa Ok hp h1 h2 (n - (p + 1)) (p + 1) (n + 1) (by omega) (by omega) (by omega) (by omega)
  rw [e] at this
  exact this
end
