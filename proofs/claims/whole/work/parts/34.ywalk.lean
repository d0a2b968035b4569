/-! ===== the reference: LAMs, binders, look ===== -/
section
variable {g_cellLimit g_callLimit g_closureLimit g_nodes g_holes g_reached : Int32} {b_kinds b_operands b_parents b_s b_p b_rec b_sets b_live b_done b_fn b_val b_entered b_bind : Nat → Int32}
variable {cs n h L : Nat} {K P N Lv S O B : Nat → Nat}
theorem yy_ln_l {post : Int32 → Prop} {v : Int32} (hn : n ≤ 48) (hk : ∀ m, m < n → b_kinds m = nI (K m) ∧ K m ≤ 6) (h1 : ∀ m, m < n → K m = 2 → v = nI (tr_lc K m) → post (nI m)) (h2 : (∀ m, m < n → K m = 2 → v ≠ nI (tr_lc K m)) → post (-1)) : ∀ d c m, c + d = n → d < m → (∀ j, j < c → K j = 2 → v ≠ nI (tr_lc K j)) → wY_lambdaNode_4 post v g_cellLimit g_callLimit g_closureLimit (nI n) g_holes g_reached b_kinds b_operands b_parents b_s b_p b_rec b_sets b_live b_done b_fn b_val b_entered b_bind m (nI (tr_lc K c)) (nI c) := by
  intro d
  induction d with
  | zero =>
    intro c m hc hm h0
    obtain ⟨m, rfl⟩ : ∃ m', m = m' + 1 := ⟨m - 1, by omega⟩
    have e : c = n := by omega
    subst e
    exact br_t (nI_le (Nat.le_refl _) (by omega)) (h2 h0)
  | succ d ih =>
    intro c m hc hm h0
    obtain ⟨m, rfl⟩ : ∃ m', m = m' + 1 := ⟨m - 1, by omega⟩
    refine br_f (nI_ge (by omega) (by omega)) ⟨vp_in_nI (by omega) (by omega), ?_⟩
    obtain ⟨k1, k2⟩ := hk c (by omega)
    rw [nI_clamp (by omega), k1]
    by_cases z : K c = 2
    · rw [z]
      refine br_t rfl (nm_r (nI_1 _) ?_)
      by_cases y : nI (tr_lc K c) = v
      · exact br_t y (h1 c (by omega) z y.symm)
      · refine br_f y (nm_r (nI_1 c) ?_)
        have e := tr_lc_s z
        rw [← e]
        refine ih (c + 1) m (by omega) (by omega) (fun j hj kj => ?_)
        by_cases w : j = c
        · subst w; exact fun q => y q.symm
        · exact h0 j (by omega) kj
    · refine br_f (fun w => z ((nI_eq (b := 2) (by omega) (by decide)).mp w)) (nm_r (nI_1 c) ?_)
      have e := tr_lc_n z
      rw [← e]
      refine ih (c + 1) m (by omega) (by omega) (fun j hj kj => ?_)
      by_cases w : j = c
      · subst w; exact absurd kj z
      · exact h0 j (by omega) kj
theorem yy_lambdaNode {post : Int32 → Prop} {v : Int32} (hn : n ≤ 48) (hk : ∀ m, m < n → b_kinds m = nI (K m) ∧ K m ≤ 6) (h1 : ∀ m, m < n → K m = 2 → v = nI (tr_lc K m) → post (nI m)) (h2 : (∀ m, m < n → K m = 2 → v ≠ nI (tr_lc K m)) → post (-1)) : wpY_lambdaNode post (g_cellLimit, g_callLimit, g_closureLimit, (nI n), g_holes, g_reached, b_kinds, b_operands, b_parents, b_s, b_p, b_rec, b_sets, b_live, b_done, b_fn, b_val, b_entered, b_bind) v :=
  ⟨n + 1, yy_ln_l hn hk h1 h2 n 0 (n + 1) (by omega) (by omega) (fun j hj => absurd hj (Nat.not_lt_zero j))⟩
theorem yy_binder_l {post : Int32 → Prop} (A : re_A cs n h L K P N Lv S O B) (hk : ∀ m, m < n → b_kinds m = nI (K m) ∧ K m ≤ 6) (hpa : ∀ m, 0 < m → m < n → b_parents m = nI (P m)) {m t : Nat} (hm : m < n) (h1 : ∀ b, K b = 2 → N b = t → (S m).testBit (tr_lc K b) = true → post (nI b)) : ∀ f a x i, a < f → i + a < n → re_w K N S n m a x t → x < 2 ^ 31 → wY_binder_17 post g_cellLimit g_callLimit g_closureLimit (nI n) g_holes g_reached b_kinds b_operands b_parents b_s b_p b_rec b_sets b_live b_done b_fn b_val b_entered b_bind f (nI x) (nI i) (nI a) := by
  have hn : n ≤ 48 := by have := A.2.2.1; have := A.2.2.2.1; omega
  intro f
  induction f with
  | zero => intro a x i hf; exact absurd hf (Nat.not_lt_zero a)
  | succ f ih =>
    intro a x i hf hi w hx
    have ha := w.1
    obtain ⟨k1, k2⟩ := hk a ha
    refine br_f (nI_ge (by omega) (by omega)) (br_f (nI_pos (by omega)) ⟨vp_in_nI (by omega) (by omega), ?_⟩)
    rw [nI_clamp (by omega), k1]
    by_cases z : K a = 2
    · rw [z]
      refine br_t rfl ?_
      cases x with
      | zero =>
        obtain ⟨e1, e2⟩ := re_w_hit A w z
        exact nm_e (br_t rfl (h1 a z e1 e2))
      | succ x =>
        obtain ⟨a0, w'⟩ := re_w_s A w (Or.inl ⟨z, rfl⟩)
        refine nm_r (pk_m1 x) (br_f (nI_ne0 (by omega) (by omega)) (nm_r (nI_1 i) ⟨vp_in_nI (by omega) (by omega), nm_r (hpa a a0 ha) ?_⟩))
        have := (A.1 a a0 ha).1
        exact ih (P a) x (i + 1) (by omega) (by omega) w' (by omega)
    · obtain ⟨a0, w'⟩ := re_w_s A w (Or.inr ⟨z, rfl⟩)
      refine br_f (fun q => z ((nI_eq (b := 2) (by omega) (by decide)).mp q)) (nm_r (nI_1 i) ⟨vp_in_nI (by omega) (by omega), nm_r (hpa a a0 ha) ?_⟩)
      have := (A.1 a a0 ha).1
      exact ih (P a) x (i + 1) (by omega) (by omega) w' hx
theorem yy_binder {post : Int32 → Prop} (A : re_A cs n h L K P N Lv S O B) (hk : ∀ m, m < n → b_kinds m = nI (K m) ∧ K m ≤ 6) (hpa : ∀ m, 0 < m → m < n → b_parents m = nI (P m)) {m : Nat} (hm : m < n) (km : K m = 0) (ho : b_operands m = nI (O m)) (h1 : ∀ b, b < m → K b = 2 → tr_lc K b = B m → (S m).testBit (tr_lc K b) = true → post (nI b)) : wpY_binder post (g_cellLimit, g_callLimit, g_closureLimit, (nI n), g_holes, g_reached, b_kinds, b_operands, b_parents, b_s, b_p, b_rec, b_sets, b_live, b_done, b_fn, b_val, b_entered, b_bind) (nI m) := by
  have hn : n ≤ 48 := by have := A.2.2.1; have := A.2.2.2.1; omega
  obtain ⟨a1, b, b1, b2, b3, b4, b5⟩ := A.2.2.2.2.2.2.2.2.2.2 m hm km
  obtain ⟨m0, w⟩ := re_w_0 A hm a1
  have hN := (A.2.2.2.2.2.2.2.2.2.1 m hm).2.1
  have hp := (A.1 m m0 hm).1
  refine ⟨vp_in_nI (by omega) (by omega), ?_⟩
  rw [nI_clamp (by omega)]
  refine nm_r ho ⟨vp_in_nI (by omega) (by omega), nm_r (hpa m m0 hm) ⟨n, ?_⟩⟩
  refine yy_binder_l A hk hpa hm (t := N m - 1 - O m) (fun b kb e hs => ?_) n (P m) (O m) 0 (by omega) (by omega) w (by omega)
  obtain ⟨e1, e2⟩ := re_bind A hm km kb e hs
  exact h1 b e2 kb e1 hs
/-- counting LAMs -/
theorem yy_look_l {post : Int32 → Prop} {k3 z : Nat} (hn : n ≤ 48) (hz : z ≤ n) (hk : ∀ m, m < n → b_kinds m = nI (K m) ∧ K m ≤ 6) (h1 : ((nI k3 = 0 → post (nI (tr_lc K z))) ∧ (¬ nI k3 = 0 → ((nI k3 = 2 → post (nI (tr_lc K z))) ∧ (¬ nI k3 = 2 → post (-1)))))) : ∀ d c m, c + d = z → d < m → wY_look_81 post (nI k3) (nI z) g_cellLimit g_callLimit g_closureLimit (nI n) g_holes g_reached b_kinds b_operands b_parents b_s b_p b_rec b_sets b_live b_done b_fn b_val b_entered b_bind m (nI (tr_lc K c)) (nI c) := by
  intro d
  induction d with
  | zero =>
    intro c m hc hm
    obtain ⟨m, rfl⟩ : ∃ m', m = m' + 1 := ⟨m - 1, by omega⟩
    have e : c = z := by omega
    subst e
    exact br_t (nI_le (Nat.le_refl _) (by omega)) h1
  | succ d ih =>
    intro c m hc hm
    obtain ⟨m, rfl⟩ : ∃ m', m = m' + 1 := ⟨m - 1, by omega⟩
    refine br_f (nI_ge (by omega) (by omega)) ⟨vp_in_nI (by omega) (by omega), ?_⟩
    obtain ⟨k1, k2⟩ := hk c (by omega)
    rw [nI_clamp (by omega), k1]
    by_cases y : K c = 2
    · rw [y]
      refine br_t rfl (nm_r (nI_1 _) (nm_r (nI_1 c) ?_))
      have e := tr_lc_s y
      rw [← e]
      exact ih (c + 1) m (by omega) (by omega)
    · refine br_f (fun w => y ((nI_eq (b := 2) (by omega) (by decide)).mp w)) (nm_r (nI_1 c) ?_)
      have e := tr_lc_n y
      rw [← e]
      exact ih (c + 1) m (by omega) (by omega)
/-- look for every what -/
theorem yy_look {post : Int32 → Prop} (A : re_A cs n h L K P N Lv S O B) (hk : ∀ m, m < n → b_kinds m = nI (K m) ∧ K m ≤ 6) (hpa : ∀ m, 0 < m → m < n → b_parents m = nI (P m)) (hod : ∀ m, m < n → K m = 0 → b_operands m = nI (O m)) {m : Nat} {w : Int32} (hm : m < n) (e0 : w = 0 → post (b_kinds m)) (e1 : w = 1 → post (b_operands m)) (e2 : w = 2 → post (b_parents m)) (e3 : w = 3 → (K m = 0 → post (nI (B m))) ∧ (K m = 2 → post (nI (tr_lc K m))) ∧ (K m ≠ 0 → K m ≠ 2 → post (-1))) (e4 : (w < 0 ∨ 3 < w) → post (-1)) : wpY_look post (g_cellLimit, g_callLimit, g_closureLimit, (nI n), g_holes, g_reached, b_kinds, b_operands, b_parents, b_s, b_p, b_rec, b_sets, b_live, b_done, b_fn, b_val, b_entered, b_bind) (nI m) w := by
  have hn : n ≤ 48 := by have := A.2.2.1; have := A.2.2.2.1; omega
  obtain ⟨k1, k2⟩ := hk m hm
  unfold wpY_look
  refine yy_has hn (fun z => ?_) (fun j hj _ => ?_)
  · rcases z with z | z
    · exact absurd z (nI_pos (by omega))
    · exact absurd z (nI_ge hm (by omega))
  · refine br_f (by decide) (br_c (fun z => e4 (Or.inl z)) (fun z => br_c (fun y => ?_) (fun y => e4 (Or.inr (Int32.not_le.mp y)))))
    have fin : ∀ b : Nat, b ≤ n → (w = 3 → ((nI (K m) = 0 → post (nI (tr_lc K b))) ∧ (¬ nI (K m) = 0 → ((nI (K m) = 2 → post (nI (tr_lc K b))) ∧ (¬ nI (K m) = 2 → post (-1)))))) → wY_look_39 post (nI m) w (nI (K m)) (nI b) g_cellLimit g_callLimit g_closureLimit (nI n) g_holes g_reached b_kinds b_operands b_parents b_s b_p b_rec b_sets b_live b_done b_fn b_val b_entered b_bind := fun b hb h3 => by
      refine br_c (fun x => ?_) (fun x => ?_)
      · have e : w = 3 := Int32.le_antisymm y x
        exact ⟨b + 1, yy_look_l hn hb hk (h3 e) b 0 (b + 1) (by omega) (by omega)⟩
      · refine br_c (fun q => by rw [← k1]; exact e0 q) (fun q => ?_)
        refine br_c (fun r => ⟨vp_in_nI (by omega) (by omega), by rw [nI_clamp (by omega)]; exact e1 r⟩) (fun r => ⟨vp_in_nI (by omega) (by omega), ?_⟩)
        rw [nI_clamp (by omega)]
        refine e2 ?_
        have z' := Int32.not_lt.mp z
        obtain ⟨v, v1, rfl⟩ := nI_of (x := w) z
        have x1 : ¬ (3 ≤ v) := fun t => x (nI_le (a := 3) t v1)
        have q1 : v ≠ 0 := fun t => q (by rw [t]; rfl)
        have r1 : v ≠ 1 := fun t => r (by rw [t]; rfl)
        have : v = 2 := by omega
        rw [this]; rfl
    refine ⟨vp_in_nI (by omega) (by omega), ?_⟩
    rw [nI_clamp (by omega), k1]
    refine nm_e ?_
    by_cases kz : K m = 0
    · refine br_t (by rw [kz]; rfl) (yy_binder A hk hpa hm kz (hod m hm kz) (fun b b1 b2 b3 _ => fin b (by omega) (fun e => ?_)))
      rw [kz, b3]
      exact br_t rfl ((e3 e).1 kz)
    · refine br_f (fun q => kz ((nI_eq (b := 0) (by omega) (by decide)).mp q)) (fin m (by omega) (fun e => ?_))
      refine br_f (fun q => kz ((nI_eq (b := 0) (by omega) (by decide)).mp q)) ?_
      by_cases k2' : K m = 2
      · exact br_t (by rw [k2']; rfl) ((e3 e).2.1 k2')
      · exact br_f (fun q => k2' ((nI_eq (b := 2) (by omega) (by decide)).mp q)) ((e3 e).2.2 kz k2')
end
